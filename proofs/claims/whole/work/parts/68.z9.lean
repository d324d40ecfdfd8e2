/-! ===== z: the class's run does what the spec says ===== -/
def zQ (t : Bool) (m : XM) (r : Nat) (P : zP) (K : Nat) (res : zR) (vf : Prop) (o : Option (Int32 × XM)) : Prop :=
  ∃ b m', o = some (b, m') ∧ zfq r m m' ∧ res.1 ≤ 2
  ∧ (res.1 = 0 → b = zN 1 ∧ zCr t m' r P res.2.2 ∧ zCo m' r res.2.2 ∧ (∀ k, k < K → gi m' (r + 10) k = gi m (r + 10) k) ∧ (vf → gi m' r 10 = res.2.1))
  ∧ (res.1 = 1 → b = zN 0 ∧ zCr t m' r P (zUn (zopn res.2.2) res.2.2) ∧ zCo m' r (zUn (zopn res.2.2) res.2.2))
  ∧ (res.1 = 2 → b = zN 0 ∧ zCr t m' r P res.2.2 ∧ gi m' r 15 = zN 1)
theorem zQ_bind {t : Bool} {m : XM} {r : Nat} {P : zP} {K K1 : Nat} {r1 : zR} {k : Int32 → zS → zR} {vf1 vf : Prop} {o1 : Option (Int32 × XM)} {κ : Int32 → XM → Option (Int32 × XM)} (h1 : zQ t m r P K1 r1 vf1 o1) (hK : K ≤ K1)
    (h2 : ∀ m1, r1.1 = 0 → zfq r m m1 → zCr t m1 r P r1.2.2 → zCo m1 r r1.2.2 → (∀ k, k < K1 → gi m1 (r + 10) k = gi m (r + 10) k) → (vf1 → gi m1 r 10 = r1.2.1) → zQ t m1 r P K (k r1.2.1 r1.2.2) vf (κ (zN 1) m1))
    (h0 : ∀ m1, κ (zN 0) m1 = some (zN 0, m1)) : zQ t m r P K (zbind r1 k) vf (xca o1 κ) := by
  obtain ⟨b, m1, rfl, q1, q2, q3, q4, q5⟩ := h1
  have hc : r1.1 = 0 ∨ r1.1 = 1 ∨ r1.1 = 2 := by omega
  rcases hc with e | e | e
  · obtain ⟨p1, p2, p3, p4, p5⟩ := q3 e
    subst p1
    obtain ⟨b2, m2, w1, w2, w3, w4, w5, w6⟩ := h2 m1 e q1 p2 p3 p4 p5
    rw [zbind_p e]
    refine ⟨b2, m2, w1, zfq_tr q1 w2, w3, fun g => ?_, w5, w6⟩
    obtain ⟨y1, y2, y3, y4, y5⟩ := w4 g
    exact ⟨y1, y2, y3, fun j hj => (y4 j hj).trans (p4 j (by omega)), y5⟩
  · obtain ⟨p1, p2, p3⟩ := q4 e
    subst p1
    rw [zbind_n (by omega)]
    exact ⟨zN 0, m1, h0 m1, q1, q2, fun g => (by omega), fun _ => ⟨rfl, p2, p3⟩, fun g => (by omega)⟩
  · obtain ⟨p1, p2, p3⟩ := q5 e
    subst p1
    rw [zbind_n (by omega)]
    exact ⟨zN 0, m1, h0 m1, q1, q2, fun g => (by omega), fun g => (by omega), fun _ => ⟨rfl, p2, p3⟩⟩
theorem zN10 : (zN 1 = zN 0) = False := by rw [zN_eq (by omega) (by omega)]; exact propext ⟨fun h => by omega, fun h => h.elim⟩
theorem znN0 {β : Type} (o : Option β) : xnb (zN 0) o = o := rfl
theorem znN1 {β : Type} (o : Option β) : xnb (zN 1) o = o := rfl
section ZH
variable {N : Nat → Nat} {t : Bool} {r c k : Nat} {P : zP} {R : Nat → Nat → Int32 → Int32 → XM → Option (Int32 × XM)} {T C : Nat → zS → zR}
def zQT (N : Nat → Nat) (t : Bool) (r c : Nat) (P : zP) (k : Nat) (R : Nat → Nat → Int32 → Int32 → XM → Option (Int32 × XM)) (T : Nat → zS → zR) : Prop :=
  ∀ m s u, u < zn P → zU N m r c P → zCR t m r P s → (zopn s).length + k = 20 → zQ t m r P (8 * ((zopn s).length + 1)) (T u s) False (R 0 r (zN u) (zN 0) m)
def zQC (N : Nat → Nat) (t : Bool) (r c : Nat) (P : zP) (k : Nat) (R : Nat → Nat → Int32 → Int32 → XM → Option (Int32 × XM)) (C : Nat → zS → zR) : Prop :=
  ∀ m s x, zok P x → zknd P x = 4 → zU N m r c P → zCR t m r P s → (zopn s).length + k = 20 → zQ t m r P (8 * ((zopn s).length + 1)) (C x s) True (R 7 r (zN x) (zN 0) m)
theorem zCo_si {m : XM} {s : zS} {j : Nat} {v : Int32} (h : zCo m r s) (h7 : j ≠ 7) (h15 : j ≠ 15) : zCo (si m r j v) r s :=
  ⟨by rw [gi_ne (by omega)]; exact h.1, zstk_o (by omega) h.2.1, by rw [gi_ne (by omega)]; exact h.2.2⟩
theorem zCo_sa {m : XM} {s : zS} {a j : Nat} {v : Int32} (h : zCo m r s) (h7 : a ≠ r) (h15 : a ≠ r + 9) : zCo (si m a j v) r s :=
  ⟨by rw [gi_ne (by omega)]; exact h.1, zstk_o (by omega) h.2.1, by rw [gi_ne (by omega)]; exact h.2.2⟩
/-- a fresh piece of work -/
theorem zCR_wk {m : XM} {s : zS} (h : zCR t m r P s) (hw : zwk s < 3000) : zCR t (si m r 11 (zN (zwk s + 1))) r P (zs_wk s (zwk s + 1)) :=
  ⟨zSi_wk h.1 hw, zCr_wk h.2.1, zCo_si h.2.2 (by omega) (by omega)⟩
theorem zQ_much {m : XM} {s : zS} {K : Nat} {vf : Prop} (h : zCR t m r P s) : zQ t m r P K (2, 0, s) vf (some (zN 0, si m r 15 (zN 1))) :=
  ⟨_, _, rfl, zfq_si (zfq_rf r m) (by omega) (by omega), Nat.le_refl 2, fun g => (by cases g), fun g => (by cases g), fun _ => ⟨rfl, zCr_op (Or.inr (Or.inr rfl)) h.2.1, gi_si _ _ _ _⟩⟩
theorem zQ_pre {m m1 : XM} {K : Nat} {res : zR} {vf : Prop} {o : Option (Int32 × XM)} (h : zfq r m m1) (hk : ∀ k, k < K → gi m1 (r + 10) k = gi m (r + 10) k) (q : zQ t m1 r P K res vf o) : zQ t m r P K res vf o := by
  obtain ⟨b, m', q1, q2, q3, q4, q5, q6⟩ := q
  refine ⟨b, m', q1, zfq_tr h q2, q3, fun g => ?_, q5, q6⟩
  obtain ⟨y1, y2, y3, y4, y5⟩ := q4 g
  exact ⟨y1, y2, y3, fun j hj => (y4 j hj).trans (hk j hj), y5⟩
theorem zQ_ok {m m' : XM} {K : Nat} {vf : Prop} {v : Int32} {s : zS} (h : zfq r m m') (h1 : zCr t m' r P s) (h2 : zCo m' r s) (h3 : ∀ k, k < K → gi m' (r + 10) k = gi m (r + 10) k) (h4 : vf → gi m' r 10 = v) : zQ t m r P K (0, v, s) vf (some (zN 1, m')) :=
  ⟨_, _, rfl, h, Nat.zero_le _, fun _ => ⟨rfl, h1, h2, h3, h4⟩, fun g => (by cases g), fun g => (by cases g)⟩
theorem zQ_fail {m : XM} {K : Nat} {vf : Prop} {s : zS} (b : Nat) (v : Int32) (hU : zU N m r c P) (h : zCR t m r P s) : zQ t m r P K (1, 0, zs_fl s (b, v, 0)) vf (xca (fX2_failAll N r (zN b) v m) fun w m' => if w = zN 0 then some (zN 0, m') else none) := by
  obtain ⟨m', p1, p2, p3⟩ := zc_failAll b v hU h
  rw [p1]
  exact ⟨_, _, rfl, p2, (by show 1 ≤ 2; omega), fun g => (by cases g), fun _ => ⟨rfl, p3.2.1, p3.2.2⟩, fun g => (by cases g)⟩
theorem zq_term (hT : zQT N t r c P k R T) (hC : zQC N t r c P k R C) (iT : zIT P k T) (oT : zKo T) {m : XM} {s : zS} {q : zCode} (hq : q.1 ≤ 3) (hq2 : q.2 < 1000) (h1 : q.1 = 1 → zok P q.2 ∧ zknd P q.2 = 1) (h2 : q.1 = 2 → zok P q.2 ∧ zknd P q.2 = 4) (hU : zU N m r c P) (h : zCR t m r P s) (ho : (zopn s).length + k = 20) :
    zQ t m r P (8 * ((zopn s).length + 1)) (zTerm P T C q s) True (fX2_workOutTerm N R r (zN q.1) (zN q.2) m) := by
  unfold fX2_workOutTerm fX2_workOutTerm_66 fX2_workOutTerm_91 zTerm
  rw [zc_spend h]
  by_cases hw : zwk s < 3000
  · rw [if_pos hw, if_pos hw]
    have hf1 : zfq r m (si m r 11 (zN (zwk s + 1))) := zfq_si (zfq_rf r m) (by omega) (by omega)
    have hU1 := zU_q hU hf1
    have hR1 := zCR_wk h hw
    refine zQ_pre hf1 (fun j _ => gi_ne (by omega)) ?_
    generalize si m r 11 (zN (zwk s + 1)) = m1 at hU1 hR1
    have hc : q.1 = 0 ∨ q.1 = 1 ∨ q.1 = 2 ∨ q.1 = 3 := by omega
    rcases hc with e | e | e | e
    · simp (disch := omega) only [zca, zN_lit, zN10, if_false, e, if_true, zv]
      exact zQ_ok (zfq_si (zfq_rf r m1) (by omega) (by omega)) (zCr_op (Or.inr (Or.inl rfl)) hR1.2.1) (zCo_si hR1.2.2 (by omega) (by omega)) (fun j _ => gi_ne (by omega)) (fun _ => gi_si _ _ _ _)
    · obtain ⟨hx, hxk⟩ := h1 e
      have hIT := iT (q.2 / 12) _ hx.1 hR1.1 ho
      simp (disch := omega) only [zca, zN_lit, zN10, if_false, e, if_true, zv, zN_eq, zdv, zN_div, Nat.one_ne_zero]
      refine zQ_bind (hT m1 _ (q.2 / 12) hx.1 hU1 hR1 ho) (Nat.le_refl _) (fun m2 e0 f2 r2 o2 k2 _ => ?_) (fun m2 => by simp only [if_true])
      have hs2 : (zsur (T (q.2 / 12) (zs_wk s (zwk s + 1))).2.2).length < zwk (T (q.2 / 12) (zs_wk s (zwk s + 1))).2.2 := by
        have e1 : zwk s + 1 + (zsur (T (q.2 / 12) (zs_wk s (zwk s + 1))).2.2).length ≤ zwk (T (q.2 / 12) (zs_wk s (zwk s + 1))).2.2 + (zsur s).length := hIT.2.1
        have := h.1.2.2.2.2.1
        omega
      obtain ⟨m3, w1, w2, w3, w4, w5⟩ := zc_readVariable hx hxk (zU_q hU1 f2) ⟨hIT.1, r2, o2⟩ hs2
      simp only [zN10, if_false, w1, zca]
      exact zQ_ok w2 w3.2.1 w3.2.2 (fun j _ => w5 j) (fun _ => w4)
    · obtain ⟨hx, hxk⟩ := h2 e
      have hIT := iT (q.2 / 12) _ hx.1 hR1.1 ho
      simp (disch := omega) only [zca, zN_lit, zN10, if_false, e, if_true, zv, zN_eq, zdv, zN_div, Nat.reduceEqDiff]
      refine zQ_bind (hT m1 _ (q.2 / 12) hx.1 hU1 hR1 ho) (Nat.le_refl _) (fun m2 e0 f2 r2 o2 k2 _ => ?_) (fun m2 => by simp only [if_true])
      have ho2 : zopn (T (q.2 / 12) (zs_wk s (zwk s + 1))).2.2 = zopn s := oT _ _ (by omega)
      have := hC m2 _ q.2 hx hxk (zU_q hU1 f2) ⟨hIT.1, r2, o2⟩ (by rw [ho2]; exact ho)
      rw [ho2] at this
      obtain ⟨b, m3, w1, w2, w3, w4, w5, w6⟩ := this
      refine ⟨b, m3, ?_, w2, w3, w4, w5, w6⟩
      simp only [zN10, if_false, w1, zca]
      have hb : b = zN 0 ∨ b = zN 1 := by
        have : (C q.2 (T (q.2 / 12) (zs_wk s (zwk s + 1))).2.2).1 = 0 ∨ (C q.2 (T (q.2 / 12) (zs_wk s (zwk s + 1))).2.2).1 = 1 ∨ (C q.2 (T (q.2 / 12) (zs_wk s (zwk s + 1))).2.2).1 = 2 := by omega
        rcases this with g | g | g
        · exact Or.inr (w4 g).1
        · exact Or.inl (w5 g).1
        · exact Or.inl (w6 g).1
      rcases hb with rfl | rfl
      · rw [if_pos rfl]
      · rw [if_neg (by rw [zN10]; exact id)]
    · simp (disch := omega) only [zca, zN_lit, zN10, if_false, e, if_true, zv, zN_eq, zneg, Nat.reduceEqDiff]
      obtain ⟨m', p1, p2, p3⟩ := zc_failAll 1 zM hU1 hR1
      rw [p1]
      exact ⟨_, _, rfl, p2, (by show 1 ≤ 2; omega), fun g => (by cases g), fun _ => ⟨rfl, p3.2.1, p3.2.2⟩, fun g => (by cases g)⟩
  · rw [if_neg hw, if_neg hw]
    simp only [zca, zN_lit, if_true]
    exact zQ_much h
end ZH
