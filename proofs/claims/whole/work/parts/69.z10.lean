/-! ===== z: the class's run: sums, deeds ===== -/
theorem ztop1 (n : Nat) : zN n - zN 1 + zN 1 = zN n := Int32.sub_add_cancel _ _
theorem ztopS (n : Nat) : zN (n + 1) - zN 1 = zN n := by rw [zN_sub (by omega)]; rfl
theorem zc_join {N : Nat → Nat} {r q : Nat} {a b : Int32} {m : XM} (h1 : 4 ≤ q) (h2 : q ≤ 6) : fX2_join N r (zN q) a b m = some (zJoin q a b, m) := by
  unfold fX2_join zJoin
  simp (disch := omega) only [zN_lit, zN_eq, zv]
  by_cases e4 : q = 4
  · rw [if_pos e4, if_pos e4]
  · rw [if_neg e4, if_neg e4]
    by_cases e5 : q = 5
    · rw [if_pos e5, if_pos e5]
    · rw [if_neg e5, if_neg e5]
theorem zEv_op {P : zP} {T C : Nat → zS → zR} {q : zCode} {l : List zCode} {vs : List Int32} {s : zS} (h : 4 ≤ q.1) : zEv P T C (q :: l) vs s = zEv P T C l (zJoin q.1 (vs.tail.headD 0) (vs.headD 0) :: vs.tail.tail) s := by
  rw [zEv, if_pos h]
theorem zEv_tm {P : zP} {T C : Nat → zS → zR} {q : zCode} {l : List zCode} {vs : List Int32} {s : zS} (h : ¬ 4 ≤ q.1) : zEv P T C (q :: l) vs s = zbind (zTerm P T C q s) fun v s1 => zEv P T C l (v :: vs) s1 := by
  rw [zEv, if_neg h]
section ZJ
variable {N : Nat → Nat} {t : Bool} {r c k : Nat} {P : zP} {R : Nat → Nat → Int32 → Int32 → XM → Option (Int32 × XM)} {T C : Nat → zS → zR}
def zQE (N : Nat → Nat) (t : Bool) (r c : Nat) (P : zP) (k : Nat) (R : Nat → Nat → Int32 → Int32 → XM → Option (Int32 × XM)) (T C : Nat → zS → zR) : Prop :=
  ∀ m s q, q.1 ≤ 3 → q.2 < 1000 → (q.1 = 1 → zok P q.2 ∧ zknd P q.2 = 1) → (q.1 = 2 → zok P q.2 ∧ zknd P q.2 = 4) → zU N m r c P → zCR t m r P s → (zopn s).length + k = 20 →
    zQ t m r P (8 * ((zopn s).length + 1)) (zTerm P T C q s) True (R 6 r (zN q.1) (zN q.2) m)
theorem zq_ev (h6 : zQE N t r c P k R T C) (iT : zIT P k T) (iC : zIC P k C) (oT : zKo T) (oC : zKo C) {dk : Nat} (hdk : dk < 300) : ∀ (l : List zCode) (n f : Nat) (vs : List Int32) (m : XM) (s : zS), l.length < n → zcw l vs.length → vs.length ≤ 8 → (∀ q ∈ l, (q.1 = 1 → zok P q.2 ∧ zknd P q.2 = 1) ∧ (q.1 = 2 → zok P q.2 ∧ zknd P q.2 = 4)) → zU N m r c P → zCR t m r P s → (zopn s).length + k = 20 →
    gi m (c + 16) dk = zN (f + l.length) → f + l.length ≤ 600 → zcod m c f l → zstv m (r + 10) (8 * (zopn s).length) vs →
    zQ t m r P (8 * (zopn s).length) (zEv P T C l vs s) True (fX2_workOut_29 N R n r (zN dk) (c + 12) (zN (8 * (zopn s).length)) (zN (8 * (zopn s).length + vs.length) - zN 1) (zN f) m) := by
  intro l
  induction l with
  | nil =>
    intro n f vs m s hn hcw hv8 hq hU h ho hb hb6 hcod hst
    obtain ⟨n, rfl⟩ : ∃ k, n = k + 1 := ⟨n - 1, by simp at hn; omega⟩
    have h20 := h.1.2.1
    obtain ⟨⟨-, -, -, -, -, -, -, -, -, -, -, u13, u14, u15, u16, u17⟩, ⟨n1, n2, n3, n4, n5, n6, n7, n8, n9, n10, n12⟩, hdis, hwf, ⟨-, -, -, -, -, -, -, -, -, -, -, -, r1, r2, r4, r5, r6⟩, -, ⟨g0, g1, g2, g3, g5, g6, g60, g61, g62, g8, g9, g17, g12⟩⟩ := hU
    have hcw' : vs.length = 1 := hcw
    obtain ⟨v, rfl⟩ : ∃ v, vs = [v] := by
      match vs, hcw' with
      | [v], _ => exact ⟨v, rfl⟩
    have hv : gi m (r + 10) (8 * (zopn s).length) = v := hst.1
    unfold fX2_workOut_29 zEv
    simp (disch := omega) only [zv, zgr r5, zald, hb, List.length_nil, Nat.add_zero, zN_le, Nat.le_refl, if_true, zgr g9, hv, zN_lit]
    exact zQ_ok (zfq_si (zfq_rf r m) (by omega) (by omega)) (zCr_op (Or.inr (Or.inl rfl)) h.2.1) (zCo_si h.2.2 (by omega) (by omega)) (fun j _ => gi_ne (by omega)) (fun _ => gi_si _ _ _ _)
  | cons q l ih =>
    intro n f vs m s hn hcw hv8 hq hU h ho hb hb6 hcod hst
    simp only [List.length_cons] at hn hb hb6
    obtain ⟨n, rfl⟩ : ∃ k, n = k + 1 := ⟨n - 1, by omega⟩
    have hU0 := hU
    have h20 := h.1.2.1
    obtain ⟨⟨-, -, -, -, -, -, -, -, -, -, -, u13, u14, u15, u16, u17⟩, ⟨n1, n2, n3, n4, n5, n6, n7, n8, n9, n10, n12⟩, hdis, hwf, ⟨-, -, -, -, -, -, -, -, -, -, -, -, r1, r2, r4, r5, r6⟩, -, ⟨g0, g1, g2, g3, g5, g6, g60, g61, g62, g8, g9, g17, g12⟩⟩ := hU
    obtain ⟨c1, c2, c3⟩ := hcod
    have hq' := fun d hd => hq d (List.mem_cons_of_mem _ hd)
    unfold zcw at hcw
    unfold fX2_workOut_29 fX2_workOut_122
    simp (disch := omega) only [zv, zgr r5, zald, hb, zN_le, zgr r1, c1, zN_lit]
    rw [if_neg (by omega)]
    by_cases h4 : 4 ≤ q.1
    · rw [if_pos h4] at hcw
      obtain ⟨hw1, hw2, hw3⟩ := hcw
      obtain ⟨v2, v1, rest, rfl⟩ : ∃ v2 v1 rest, vs = v2 :: v1 :: rest := by
        match vs, hw2 with
        | v2 :: v1 :: rest, _ => exact ⟨v2, v1, rest, rfl⟩
      simp only [List.length_cons] at hw3 hv8 hst ⊢
      obtain ⟨s2, s1, srest⟩ := hst
      have s2' : gi m (r + 10) (8 * (zopn s).length + rest.length + 1) = v2 := by
        rw [show 8 * (zopn s).length + rest.length + 1 = 8 * (zopn s).length + (rest.length + 1) by omega]; exact s2
      have e1 : zN (8 * (zopn s).length + (rest.length + 1 + 1)) - zN 1 + zM = zN (8 * (zopn s).length + rest.length) := by
        rw [show 8 * (zopn s).length + (rest.length + 1 + 1) = (8 * (zopn s).length + rest.length + 1) + 1 by omega, ztopS, zN_dec (by omega)]; rfl
      rw [zEv_op h4, if_neg (by rw [zN_le (by omega) (by omega)]; omega)]
      simp (disch := omega) only [zneg, e1, zgr g9, zald, zN_add, s1, s2', zc_join, zca, zast]
      have hf1 : zfq r m (si m (r + 10) (8 * (zopn s).length + rest.length) (zJoin q.1 v1 v2)) := zfq_si (zfq_rf r m) (by omega) (by omega)
      have e2 : ∀ a j, c ≤ a → a < c + 18 → gi (si m (r + 10) (8 * (zopn s).length + rest.length) (zJoin q.1 v1 v2)) a j = gi m a j := fun a j _ _ => gi_ne (by omega)
      have := ih n (f + 1) (zJoin q.1 v1 v2 :: rest) (si m (r + 10) (8 * (zopn s).length + rest.length) (zJoin q.1 v1 v2)) s (by omega) (by exact hw3) (by simp; omega) hq' (zU_q hU0 hf1) ⟨h.1, zCr_oc (Or.inr rfl) h.2.1, zCo_sa h.2.2 (by omega) (by omega)⟩ ho (by rw [e2 _ _ (by omega) (by omega), hb]; congr 1; omega) (by omega) (zcod_fr (fun j => e2 _ _ (by omega) (by omega)) (fun j => e2 _ _ (by omega) (by omega)) c3) ⟨gi_si _ _ _ _, zstv_ge (Nat.le_refl _) srest⟩
      rw [List.length_cons, show 8 * (zopn s).length + (rest.length + 1) = (8 * (zopn s).length + rest.length) + 1 by omega, ztopS] at this
      exact zQ_pre hf1 (fun j hj => gi_ne (by omega)) this
    · rw [if_neg h4] at hcw
      obtain ⟨hw1, hw2, hw3⟩ := hcw
      rw [zEv_tm h4, if_pos (by rw [zN_le (by omega) (by omega)]; omega)]
      simp (disch := omega) only [zgr r2, zald, c2, zneg]
      have hqq := hq q List.mem_cons_self
      have hI : zSi P (zTerm P T C q s).2.2 := (zI_term hwf iT iC oT hqq.1 hqq.2 h.1 ho).1
      refine zQ_bind (h6 m s q (by omega) hw1 hqq.1 hqq.2 hU0 h ho) (by omega) (fun m1 e0 f1 r1' o1 k1 w1 => ?_) (fun m1 => by simp only [if_true])
      have w1' := w1 trivial
      have ho1 : zopn (zTerm P T C q s).2.2 = zopn s := zKo_term oT oC q s (by omega)
      have g9' : gr m1 r 9 = some (r + 10) := by rw [f1.2.1 _ _ (by omega) (by omega)]; exact g9
      simp (disch := omega) only [zN10, if_false, ztop1, zgr g9', zast, w1', zN_add]
      generalize hv : (zTerm P T C q s).2.1 = v at w1' ⊢
      generalize hs1 : (zTerm P T C q s).2.2 = s1 at hI ho1 r1' o1 ⊢
      have hf2 : zfq r m1 (si m1 (r + 10) (8 * (zopn s).length + vs.length) v) := zfq_si (zfq_rf r m1) (by omega) (by omega)
      have e2 : ∀ a j, c ≤ a → a < c + 18 → gi (si m1 (r + 10) (8 * (zopn s).length + vs.length) v) a j = gi m a j := fun a j p1 p2 => by
        rw [gi_ne (by omega)]; exact (f1.1 a (by omega)).1 j
      have := ih n (f + 1) (v :: vs) (si m1 (r + 10) (8 * (zopn s).length + vs.length) v) s1 (by omega) (by exact hw3) (by simp; omega) hq' (zU_q (zU_q hU0 f1) hf2) ⟨hI, zCr_oc (Or.inr rfl) r1', zCo_sa o1 (by omega) (by omega)⟩ (by rw [ho1]; exact ho) (by rw [e2 _ _ (by omega) (by omega), hb]; congr 1; omega) (by omega) (zcod_fr (fun j => e2 _ _ (by omega) (by omega)) (fun j => e2 _ _ (by omega) (by omega)) c3)
        (by rw [ho1]; exact ⟨gi_si _ _ _ _, zstv_ge (Nat.le_refl _) (zstv_fr (fun j hj => k1 j (by omega)) hv8 hst)⟩)
      rw [ho1, List.length_cons, show 8 * (zopn s).length + (vs.length + 1) = (8 * (zopn s).length + vs.length) + 1 by omega, ztopS] at this
      exact zQ_pre hf2 (fun j hj => gi_ne (by omega)) this
theorem zq_workOut (h6 : zQE N t r c P k R T C) (iT : zIT P k T) (iC : zIC P k C) (oT : zKo T) (oC : zKo C) {dk : Nat} {d : zDeed} {m : XM} {s : zS} (hd : zdok P d) (hdat : zdat m c dk d) (hU : zU N m r c P) (h : zCR t m r P s) (ho : (zopn s).length + k = 20) :
    zQ t m r P (8 * (zopn s).length) (zEv P T C d.1 [] s) True (fX2_workOut N R r (zN dk) m) := by
  obtain ⟨hdk, f, d1, d2, d3, d4, d5⟩ := hdat
  have h20 := h.1.2.1
  unfold fX2_workOut
  have hX := zXF
  revert hX
  generalize XF = nf
  intro hX
  have := zq_ev h6 iT iC oT oC hdk d.1 nf f [] m s (by omega) hd.1.1 (by simp) hd.1.2 hU h ho d2 d3 d4 trivial
  obtain ⟨⟨-, -, -, -, -, -, -, -, -, -, -, u13, u14, u15, u16, u17⟩, -, hdis, hwf, ⟨-, -, -, -, -, -, -, -, -, -, -, r13, r1, r2, r4, r5, r6⟩, -, ⟨g0, -⟩⟩ := hU
  have h7 := h.2.2.1
  simp (disch := omega) only [zv, zgr g0, zgr r13, h7, zN_lit, zN_mul, zgr r4, zald, d1]
  rw [Nat.mul_comm (zopn s).length 8]
  exact this
end ZJ
