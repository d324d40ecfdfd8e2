/-! ===== z: the class's run: deeds, members, units, functions ===== -/
section ZM
variable {N : Nat → Nat} {t : Bool} {r c k : Nat} {P : zP} {R : Nat → Nat → Int32 → Int32 → XM → Option (Int32 × XM)} {T C : Nat → zS → zR}
theorem zCR_set {m : XM} {s : zS} {x : Nat} {v : Int32} {w : Nat} (h : zCR t m r P s) : zCr t (si (si m r 13 (zN w)) (r + 2) x v) r P (zs_val (zs_los s w) (zset (zval s) x v)) ∧ zCo (si (si m r 13 (zN w)) (r + 2) x v) r (zs_val (zs_los s w) (zset (zval s) x v)) :=
  ⟨zCr_val (zCr_los h.2.1), zCo_sa (zCo_si h.2.2 (by omega) (by omega)) (by omega) (by omega)⟩
theorem zq_set (hT : zQT N t r c P k R T) (iT : zIT P k T) {m : XM} {s : zS} {x : Nat} {v : Int32} (hx : zok P x) (hxk : zknd P x = 1) (hU : zU N m r c P) (h : zCR t m r P s) (ho : (zopn s).length + k = 20) :
    zQ t m r P (8 * ((zopn s).length + 1)) (zbind (T (x / 12) s) fun _ s2 => if zwk s2 < 3000 then (0, v, zs_val (zs_los (zs_wk s2 (zwk s2 + 1)) (if zEarly P x s2 then zlos s2 + 1 else zlos s2)) (zset (zval s2) x v)) else (2, 0, s2)) False (fX2_setVariable N R r (zN x) v m) := by
  have h84 := zok_84 hU.2.2.2.1 hx
  unfold fX2_setVariable fX2_setVariable_38
  simp (disch := omega) only [zN_lit, zdv, zv, zN_div]
  have hI := iT (x / 12) s hx.1 h.1 ho
  refine zQ_bind (hT m s (x / 12) hx.1 hU h ho) (Nat.le_refl _) (fun m2 e0 f2 r2 o2 k2 _ => ?_) (fun m2 => by simp only [if_true])
  have hS2 : zSi P (T (x / 12) s).2.2 := hI.1
  generalize (T (x / 12) s).2.2 = s2 at r2 o2 hS2 ⊢
  have hR2 : zCR t m2 r P s2 := ⟨hS2, r2, o2⟩
  have hU2 := zU_q hU f2
  rw [zc_spend hR2]
  simp only [zN10, if_false]
  by_cases hw : zwk s2 < 3000
  · rw [if_pos hw, if_pos hw]
    simp only [zca, zN10, if_false]
    have hR3 := zCR_wk hR2 hw
    have f3 : zfq r m2 (si m2 r 11 (zN (zwk s2 + 1))) := zfq_si (zfq_rf r m2) (by omega) (by omega)
    have hU3 := zU_q hU2 f3
    refine zQ_pre f3 (fun j _ => gi_ne (by omega)) ?_
    generalize si m2 r 11 (zN (zwk s2 + 1)) = m3 at hR3 hU3
    rw [zc_isEarly hU3 hR3 hx hxk]
    have g2 : gr m3 r 2 = some (r + 2) := hU3.2.2.2.2.2.2.2.2.1
    have n2 : N (r + 2) = 84 := hU3.2.1.2.1
    have h13 : gi m3 r 13 = zN (zlos s2) := hR3.2.1.2.2.2.2.2.2.2.1
    have eE : zEarly P x (zs_wk s2 (zwk s2 + 1)) = zEarly P x s2 := rfl
    rw [eE]
    cases he : zEarly P x s2 with
    | true =>
      simp (disch := omega) only [zca, if_true, zN10, if_false, h13, zN_add, zgr_si, zgr g2, zast]
      exact zQ_ok (zfq_si (zfq_si (zfq_rf r m3) (by omega) (by omega)) (by omega) (by omega)) (zCR_set hR3).1 (zCR_set hR3).2 (fun j _ => by rw [gi_ne (by omega), gi_ne (by omega)]) (fun g => g.elim)
    | false =>
      simp (disch := omega) only [zca, if_true, if_false, Bool.false_eq_true, zgr g2, zast]
      exact zQ_ok (zfq_si (zfq_rf r m3) (by omega) (by omega)) (zCr_val hR3.2.1) (zCo_sa hR3.2.2 (by omega) (by omega)) (fun j _ => gi_ne (by omega)) (fun g => g.elim)
  · rw [if_neg hw, if_neg hw]
    simp only [zca, if_true]
    exact zQ_much hR2
def zQW (N : Nat → Nat) (t : Bool) (r c : Nat) (P : zP) (k : Nat) (R : Nat → Nat → Int32 → Int32 → XM → Option (Int32 × XM)) (T C : Nat → zS → zR) : Prop :=
  ∀ m s d dk, zdok P d → zdat m c dk d → zU N m r c P → zCR t m r P s → (zopn s).length + k = 20 → zQ t m r P (8 * (zopn s).length) (zEv P T C d.1 [] s) True (R 5 r (zN dk) (zN 0) m)
def zQS (N : Nat → Nat) (t : Bool) (r c : Nat) (P : zP) (k : Nat) (R : Nat → Nat → Int32 → Int32 → XM → Option (Int32 × XM)) (T : Nat → zS → zR) : Prop :=
  ∀ m s x v, zok P x → zknd P x = 1 → zU N m r c P → zCR t m r P s → (zopn s).length + k = 20 → zQ t m r P (8 * ((zopn s).length + 1)) (zbind (T (x / 12) s) fun _ s2 => if zwk s2 < 3000 then (0, v, zs_val (zs_los (zs_wk s2 (zwk s2 + 1)) (if zEarly P x s2 then zlos s2 + 1 else zlos s2)) (zset (zval s2) x v)) else (2, 0, s2)) False (R 4 r (zN x) v m)
def zQD (N : Nat → Nat) (t : Bool) (r c : Nat) (P : zP) (k : Nat) (R : Nat → Nat → Int32 → Int32 → XM → Option (Int32 × XM)) (T C : Nat → zS → zR) : Prop :=
  ∀ m s d dk, zdok P d → zdat m c dk d → zU N m r c P → zCR t m r P s → (zopn s).length + k = 20 → zQ t m r P (8 * (zopn s).length) (zDo P T C d s) (d.2 = none) (R 3 r (zN dk) (zN 0) m)
theorem zQ_vf {m : XM} {K K' : Nat} {res : zR} {vf vf' : Prop} {o : Option (Int32 × XM)} (h : zQ t m r P K res vf o) (hK : K' ≤ K) (hv : vf' → vf) : zQ t m r P K' res vf' o := by
  obtain ⟨b, m', q1, q2, q3, q4, q5, q6⟩ := h
  refine ⟨b, m', q1, q2, q3, fun g => ?_, q5, q6⟩
  obtain ⟨y1, y2, y3, y4, y5⟩ := q4 g
  exact ⟨y1, y2, y3, fun j hj => y4 j (by omega), fun g => y5 (hv g)⟩
theorem zQ_ret {m : XM} {K : Nat} {res : zR} {vf : Prop} {o : Option (Int32 × XM)} (h : zQ t m r P K res vf o) : zQ t m r P K res vf (xca o fun v m' => if v = zN 0 then some (zN 0, m') else some (zN 1, m')) := by
  obtain ⟨b, m', rfl, q2, q3, q4, q5, q6⟩ := h
  have hb : b = zN 0 ∨ b = zN 1 := by
    have : res.1 = 0 ∨ res.1 = 1 ∨ res.1 = 2 := by omega
    rcases this with g | g | g
    · exact Or.inr (q4 g).1
    · exact Or.inl (q5 g).1
    · exact Or.inl (q6 g).1
  refine ⟨b, m', ?_, q2, q3, q4, q5, q6⟩
  rcases hb with rfl | rfl
  · simp only [zca, if_true]
  · simp only [zca, zN10, if_false]
theorem zdat_q {m m' : XM} {dk : Nat} {d : zDeed} (hU : zU N m r c P) (g : zfq r m m') (h : zdat m c dk d) : zdat m' c dk d := zdat_fr (fun a j h1 h2 => (g.1 a (by have := hU.2.2.1; omega)).1 j) h
theorem zdats_q {m m' : XM} {dk : Nat} {l : List zDeed} (hU : zU N m r c P) (g : zfq r m m') (h : zdats m c dk l) : zdats m' c dk l := zdats_fr (fun a j h1 h2 => (g.1 a (by have := hU.2.2.1; omega)).1 j) h
theorem zq_do (h5 : zQW N t r c P k R T C) (h4 : zQS N t r c P k R T) (iT : zIT P k T) (iC : zIC P k C) (oT : zKo T) (oC : zKo C) {m : XM} {s : zS} {d : zDeed} {dk : Nat} (hd : zdok P d) (hdat : zdat m c dk d) (hU : zU N m r c P) (h : zCR t m r P s) (ho : (zopn s).length + k = 20) :
    zQ t m r P (8 * (zopn s).length) (zDo P T C d s) (d.2 = none) (fX2_doDeed N R r (zN dk) m) := by
  unfold fX2_doDeed fX2_doDeed_40 zDo
  simp only [zN_lit, zneg, zv]
  have hI : zSi P (zEv P T C d.1 [] s).2.2 := (zI_ev hU.2.2.2.1 iT iC oT oC d.1 [] s hd.1.2 h.1 ho).1
  refine zQ_bind (h5 m s d dk hd hdat hU h ho) (Nat.le_refl _) (fun m1 e0 f1 r1 o1 k1 w1 => ?_) (fun m1 => by simp only [if_true])
  have ho1 : zopn (zEv P T C d.1 [] s).2.2 = zopn s := zKo_ev oT oC d.1 [] s (by omega)
  have w1' := w1 trivial
  have hU1 := zU_q hU f1
  obtain ⟨q1, f, q2, q3, q4, q5, q6⟩ := zdat_q hU f1 hdat
  generalize (zEv P T C d.1 [] s).2.1 = v at w1' ⊢
  generalize (zEv P T C d.1 [] s).2.2 = s1 at hI ho1 r1 o1 ⊢
  have g0 : gr m1 r 0 = some c := hU1.2.2.2.2.2.2.1
  have g13 : gr m1 c 13 = some (c + 12) := hU1.2.2.2.2.1.2.2.2.2.2.2.2.2.2.2.2.1
  have g6 : gr m1 (c + 12) 6 = some (c + 17) := hU1.2.2.2.2.1.2.2.2.2.2.2.2.2.2.2.2.2.2.2.2.2
  have n17 : N (c + 17) = 300 := hU1.1.2.2.2.2.2.2.2.2.2.2.2.2.2.2.2
  simp (disch := omega) only [zN10, if_false, zgr g0, zgr g13, zgr g6, zald, q6, w1']
  cases hm : d.2 with
  | none =>
    simp only [zopt, if_true]
    exact zQ_ok (zfq_rf r m1) r1 o1 (fun _ _ => rfl) (fun _ => w1')
  | some x =>
    have hx := hd.2 x hm
    have h84 := zok_84 hU.2.2.2.1 hx.1
    simp (disch := omega) only [zopt, zN_m, if_false]
    have := h4 m1 s1 x v hx.1 hx.2 hU1 ⟨hI, r1, o1⟩ (by rw [ho1]; exact ho)
    exact zQ_ret (zQ_vf this (by rw [ho1]; omega) (fun g => by cases g))
def zQM (N : Nat → Nat) (t : Bool) (r c : Nat) (P : zP) (k : Nat) (R : Nat → Nat → Int32 → Int32 → XM → Option (Int32 × XM)) (T C : Nat → zS → zR) : Prop :=
  ∀ m s x, zok P x → zon P x = true → zU N m r c P → zCR t m r P s → (zopn s).length + k = 20 → zQ t m r P (8 * (zopn s).length) (zMem P T C x s) False (R 2 r (zN x) (zN 0) m)
theorem zq_mem (h3 : zQD N t r c P k R T C) {m : XM} {s : zS} {x : Nat} (hx : zok P x) (hon : zon P x = true) (hU : zU N m r c P) (h : zCR t m r P s) (ho : (zopn s).length + k = 20) :
    zQ t m r P (8 * (zopn s).length) (zMem P T C x s) False (fX2_doMember N R r (zN x) m) := by
  have h84 := zok_84 hU.2.2.2.1 hx
  have hU0 := hU
  obtain ⟨⟨-, -, -, u4, -, -, u7, -⟩, ⟨n1, n2, n3, -⟩, hdis, hwf, ⟨-, -, -, r4, -, -, r7, -⟩, ⟨-, -, -, hd4, -, hd6, -⟩, ⟨g0, -⟩⟩ := hU
  have hx3 := hwf.2.2.1 x hx
  have hk4 := hx3.1
  have hkn := (hd4 x hx).1
  unfold fX2_doMember zMem
  rw [if_pos hon]
  simp (disch := omega) only [zv, zN_lit, zneg, zgr g0, zgr r4, zald, hkn, zN_eq]
  by_cases e4 : zknd P x = 4
  · rw [if_pos e4, (hx3.2.2.2.1 e4).1]
    exact zQ_ok (zfq_rf r m) h.2.1 h.2.2 (fun _ _ => rfl) (fun g => g.elim)
  · rw [if_neg e4]
    obtain ⟨d1, d2⟩ := (hd6 x hx).1 e4
    simp (disch := omega) only [zgr r7, zald]
    cases hi : zini P x with
    | none =>
      rw [d1 hi]
      simp only [if_true]
      exact zQ_ok (zfq_rf r m) h.2.1 h.2.2 (fun _ _ => rfl) (fun g => g.elim)
    | some d =>
      obtain ⟨dk, hk1, hk2⟩ := d2 d hi
      have hk3 := hk2.1
      rw [hk1]
      simp (disch := omega) only [zN_m, if_false]
      refine zQ_bind (h3 m s d dk (hx3.2.1 d hi) hk2 hU0 h ho) (Nat.le_refl _) (fun m1 e0 f1 r1 o1 k1 w1 => ?_) (fun m1 => by simp only [if_true])
      simp only [zN10, if_false]
      by_cases e1 : zknd P x = 1
      · rw [if_pos e1, if_pos e1]
        have w1' := w1 (hx3.2.2.2.2.1 e1 d hi)
        have g2 : gr m1 r 2 = some (r + 2) := (zU_q hU0 f1).2.2.2.2.2.2.2.2.1
        have g3 : gr m1 r 3 = some (r + 3) := (zU_q hU0 f1).2.2.2.2.2.2.2.2.2.1
        simp (disch := omega) only [zgr g2, zgr_si, zgr g3, zast, w1']
        exact zQ_ok (zfq_si (zfq_si (zfq_rf r m1) (by omega) (by omega)) (by omega) (by omega)) (zCr_mk (zCr_val r1)) (zCo_sa (zCo_sa o1 (by omega) (by omega)) (by omega) (by omega)) (fun j _ => by rw [gi_ne (by omega), gi_ne (by omega)]) (fun g => g.elim)
      · rw [if_neg e1, if_neg e1]
        exact zQ_ok (zfq_rf r m1) r1 o1 (fun _ _ => rfl) (fun g => g.elim)
end ZM
