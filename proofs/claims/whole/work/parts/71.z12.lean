/-! ===== z: the class's run: units, functions, the whole group ===== -/
section ZO
variable {N : Nat → Nat} {t : Bool} {r c k : Nat} {P : zP} {R : Nat → Nat → Int32 → Int32 → XM → Option (Int32 × XM)} {T C : Nat → zS → zR}
theorem zUn_close {u : Nat} {o : List Nat} {res : zR} (h1 : res.1 = 1) (ho : zopn res.2.2 = (u * 100 + 99) :: o) : zUn (zopn (zClose u res).2.2) (zClose u res).2.2 = zUn (zopn res.2.2) res.2.2 := by
  have e1 : (u * 100 + 99) % 100 = 99 := by omega
  have e2 : (u * 100 + 99) / 100 = u := by omega
  unfold zClose
  rw [if_neg (by omega), if_pos h1, ho]
  show zUn o (zs_fl (zs_brk (zs_opn (zs_st res.2.2 (zset (zst res.2.2) u 3)) o) (zset (zbrk res.2.2) u (zfl res.2.2))) ((zfl res.2.2).1, (zfl res.2.2).2.1, (zfl res.2.2).2.2 + 1)) = _
  conv => rhs; unfold zUn
  rw [if_pos e1, e2]
  exact zUn_opn o o (zs_fl (zs_brk (zs_st res.2.2 (zset (zst res.2.2) u 3)) (zset (zbrk res.2.2) u (zfl res.2.2))) ((zfl res.2.2).1, (zfl res.2.2).2.1, (zfl res.2.2).2.2 + 1))
theorem zUn_pop {x : Nat} {o : List Nat} {res : zR} (h1 : res.1 = 1) (hx : x % 100 ≠ 99) (ho : zopn res.2.2 = x :: o) : zUn (zopn (zPop res).2.2) (zPop res).2.2 = zUn (zopn res.2.2) res.2.2 := by
  unfold zPop
  rw [if_neg (by omega), ho]
  show zUn o (zs_opn res.2.2 o) = _
  conv => rhs; unfold zUn
  rw [if_neg hx]
  exact zUn_opn o o res.2.2
/-- what ended ill goes through the unit's end -/
theorem zQ_closeF {m : XM} {K : Nat} {res : zR} {u : Nat} {vf : Prop} {o : Option (Int32 × XM)} {p : List Nat} (h : zQ t m r P K res vf o) (hne : res.1 ≠ 0) (ho : res.1 ≠ 2 → zopn res.2.2 = (u * 100 + 99) :: p) : zQ t m r P K (zClose u res) vf o := by
  obtain ⟨b, m', q1, q2, q3, q4, q5, q6⟩ := h
  have hc : res.1 = 1 ∨ res.1 = 2 := by omega
  rcases hc with e | e
  · have e' : (zClose u res).1 = 1 := by unfold zClose; rw [if_neg (by omega), if_pos e]
    refine ⟨b, m', q1, q2, by omega, fun g => (by omega), fun g => ?_, fun g => (by omega)⟩
    rw [zUn_close e (ho (by omega))]
    exact q5 e
  · have e' : zClose u res = res := by unfold zClose; rw [if_neg (by omega), if_neg (by omega)]
    rw [e']
    exact ⟨b, m', q1, q2, q3, q4, q5, q6⟩
theorem zQ_popF {m : XM} {K : Nat} {res : zR} {x : Nat} {vf : Prop} {o : Option (Int32 × XM)} {p : List Nat} (h : zQ t m r P K res vf o) (hne : res.1 ≠ 0) (hx : x % 100 ≠ 99) (ho : res.1 ≠ 2 → zopn res.2.2 = x :: p) : zQ t m r P K (zPop res) vf o := by
  obtain ⟨b, m', q1, q2, q3, q4, q5, q6⟩ := h
  have hc : res.1 = 1 ∨ res.1 = 2 := by omega
  rcases hc with e | e
  · have e' : (zPop res).1 = 1 := by unfold zPop; rw [if_neg (by omega)]; exact e
    refine ⟨b, m', q1, q2, by omega, fun g => (by omega), fun g => ?_, fun g => (by omega)⟩
    rw [zUn_pop e hx (ho (by omega))]
    exact q5 e
  · have e' : zPop res = res := by unfold zPop; rw [if_pos e]
    rw [e']
    exact ⟨b, m', q1, q2, q3, q4, q5, q6⟩
/-- a step, then the rest, then the end F: F leaves what ended ill to hF -/
theorem zQ_bindF {m : XM} {K K1 : Nat} {r1 : zR} {k : Int32 → zS → zR} {vf1 vf : Prop} {o1 : Option (Int32 × XM)} {κ : Int32 → XM → Option (Int32 × XM)} {F : zR → zR} (h1 : zQ t m r P K1 r1 vf1 o1) (hK : K ≤ K1)
    (h2 : ∀ m1, r1.1 = 0 → zfq r m m1 → zCr t m1 r P r1.2.2 → zCo m1 r r1.2.2 → (∀ k, k < K1 → gi m1 (r + 10) k = gi m (r + 10) k) → (vf1 → gi m1 r 10 = r1.2.1) → zQ t m1 r P K (F (k r1.2.1 r1.2.2)) vf (κ (zN 1) m1))
    (h0 : ∀ m1, κ (zN 0) m1 = some (zN 0, m1)) (hF : r1.1 ≠ 0 → ∀ o, zQ t m r P K r1 vf o → zQ t m r P K (F r1) vf o) : zQ t m r P K (F (zbind r1 k)) vf (xca o1 κ) := by
  by_cases e : r1.1 = 0
  · rw [zbind_p e]
    have := zQ_bind (κ := κ) (k := fun v s => F (k v s)) h1 hK h2 h0
    rwa [zbind_p e] at this
  · rw [zbind_n e]
    refine hF e _ ?_
    have := zQ_bind (κ := κ) (K := K) (vf := vf) (k := fun v s => F (k v s)) h1 hK (fun m1 e0 => absurd e0 e) h0
    rwa [zbind_n e] at this
theorem zq_mems (h2 : zQM N t r c P k R T C) (iT : zIT P k T) (iC : zIC P k C) (oT : zKo T) (oC : zKo C) {u : Nat} (hu : u < zn P) {o : List Nat} : ∀ (d n i : Nat) (m : XM) (s : zS), d < n → i + d = zcnt P u → zU N m r c P → zCR t m r P s → (zopn s).length + k = 20 → zopn s = (u * 100 + 99) :: o →
    zQ t m r P (8 * (zopn s).length) (zClose u (zMems P T C (zmb P u d i) s)) False (fX2_beginUnit_79 N R n r (zN u) (zN i) m) := by
  intro d
  induction d with
  | zero =>
    intro n i m s hn hi hU h ho hop
    obtain ⟨n, rfl⟩ : ∃ k, n = k + 1 := ⟨n - 1, by omega⟩
    have h7 := h.2.2.1
    have h20 := h.1.2.1
    obtain ⟨⟨-, -, u3, -⟩, ⟨n1, -⟩, hdis, hwf, ⟨-, -, r3, -⟩, ⟨-, -, hd3, -⟩, ⟨g0, g1, -⟩⟩ := hU
    have hz := hwf.1
    have hc := (hwf.2.1 u hu).1
    have hcn := (hd3 u hu).2.2
    unfold fX2_beginUnit_79
    simp (disch := omega) only [zv, zgr g0, zgr r3, zald, hcn, zN_le, zN_lit, zgr g1, zast, gi_ne, h7]
    rw [if_pos (by omega), hop, List.length_cons, ztopS]
    have e : zClose u (zMems P T C (zmb P u 0 i) s) = (0, 0, zs_opn (zs_st s (zset (zst s) u 2)) o) := by
      show (0, 0, zs_opn (zs_st s (zset (zst s) u 2)) (zopn s).tail) = _
      rw [hop]; rfl
    rw [e]
    refine zQ_ok (zfq_si (zfq_si (zfq_rf r m) (by omega) (by omega)) (by omega) (by omega)) (zCr_op (Or.inl rfl) (zCr_done h.2.1)) ⟨gi_si _ _ _ _, ?_, ?_⟩ (fun j _ => by rw [gi_ne (by omega), gi_ne (by omega)]) (fun g => g.elim)
    · have := h.2.2.2.1
      rw [hop] at this
      exact zstk_o (by omega) (zstk_o (by omega) this.2)
    · rw [gi_ne (by omega), gi_ne (by omega)]; exact h.2.2.2.2
  | succ d ih =>
    intro n i m s hn hi hU h ho hop
    obtain ⟨n, rfl⟩ : ∃ k, n = k + 1 := ⟨n - 1, by omega⟩
    have hU0 := hU
    obtain ⟨⟨-, -, u3, -, -, -, -, u8, u9, -⟩, -, hdis, hwf, ⟨-, -, r3, -, -, -, -, r8, r9, -⟩, ⟨-, -, hd3, hd4, hd5, -⟩, ⟨g0, -⟩⟩ := hU
    have hz := hwf.1
    have hc := (hwf.2.1 u hu).1
    have hcn := (hd3 u hu).2.2
    have hx := zplc_ok hwf hu (i := i) (by omega)
    have h84 := zok_84 hwf hx
    have hpl := hd5 u i hu (by omega)
    have hon := (hd4 _ hx).2.2.2
    have e9 : u * 12 + i = 12 * u + i := by omega
    unfold fX2_beginUnit_79 fX2_beginUnit_125 fX6_memberAt
    simp (disch := omega) only [zv, zgr g0, zgr r3, zald, hcn, zN_le, zN_lit, zgr r9, zN_mul, zN_add, e9, hpl, zca, zgr r8, hon]
    rw [if_neg (by omega)]
    show zQ t m r P (8 * (zopn s).length) (zClose u (zbind (zMem P T C (12 * u + zplc P u i) s) fun _ s1 => zMems P T C (zmb P u d (i + 1)) s1)) False _
    cases hb : zon P (12 * u + zplc P u i) with
    | false =>
      have e : zMem P T C (12 * u + zplc P u i) s = (0, 0, s) := by
        unfold zMem; rw [hb]; rfl
      rw [e, zbind_0]
      simp (disch := omega) only [Bool.false_eq_true, if_false, zN_eq, Nat.reduceEqDiff]
      exact ih n (i + 1) m s (by omega) (by omega) hU0 h ho hop
    | true =>
      simp (disch := omega) only [if_true]
      have hI := zI_mem hwf iT iC oT oC hx h.1 ho
      refine zQ_bindF (F := zClose u) (h2 m s _ hx hb hU0 h ho) (Nat.le_refl _) (fun m1 e0 f1 r1 o1 k1 _ => ?_) (fun m1 => by simp only [if_true]) (fun hne o' q => zQ_closeF q hne (fun g => (zKo_mem oT oC _ s g).trans hop))
      have ho1 : zopn (zMem P T C (12 * u + zplc P u i) s).2.2 = zopn s := zKo_mem oT oC _ s (by omega)
      simp only [zN10, if_false]
      have := ih n (i + 1) m1 _ (by omega) (by omega) (zU_q hU0 f1) ⟨hI.1, r1, o1⟩ (by rw [ho1]; exact ho) (ho1.trans hop)
      rwa [ho1] at this
/-- a unit begins, its level being k + 1 -/
theorem zq_begin (hT : zQT N t r c P k R T) (h2 : zQM N t r c P k R T C) (iT : zIT P k T) (iC : zIC P k C) (oT : zKo T) (oC : zKo C) {u : Nat} (hu : u < zn P) {m : XM} {s : zS} (hU : zU N m r c P) (h : zCR t m r P s) (h0 : zst s u = 0) (ho : (zopn s).length + (k + 1) = 20) :
    zQ t m r P (8 * ((zopn s).length + 1)) (if zwk s < 3000 then zClose u (zbind (match zabv P u with
            | none => (0, 0, zBegin P u s)
            | some a => T a (zBegin P u s)) fun _ s1 => zMems P T C (zmbs P u) s1) else (2, 0, s)) False (fX2_beginUnit N R r (zN u) m) := by
  have hU0 := hU
  have hwk3 := h.1.2.2.2.1
  obtain ⟨⟨-, u2, u3, -⟩, ⟨n1, -⟩, hdis, hwf, ⟨-, r2, r3, -⟩, ⟨-, -, hd3, -⟩, ⟨g0, g1, -⟩⟩ := hU
  have hz := hwf.1
  have h11 := h.2.1.2.2.2.2.2.1
  have h4 := h.2.1.2.2.2.1
  have hfr := h.1.2.2.2.2.2.2.2.1
  have hfree := zfree_set (f := zst s) (u := u) (v := 1) (by omega) h0 (by omega)
  unfold fX2_beginUnit fX2_beginUnit_24 fX2_beginUnit_77
  have hX := zXF
  revert hX
  generalize XF = nf
  intro hX
  simp (disch := omega) only [zv, h11, zN_lit, zN_le, zneg]
  by_cases hw : zwk s < 3000
  · rw [if_pos hw, if_neg (by omega)]
    simp only [zN_mul, zN_add]
    rw [zc_openUp hU0 h, if_pos (by omega)]
    simp (disch := omega) only [zca, zN10, if_false, gi_ne, h11, zN_add]
    have f1 : zfq r m (si (si (si m (r + 9) (zopn s).length (zN (u * 100 + 99))) r 7 (zN ((zopn s).length + 1))) r 11 (zN (zwk s + 1))) := zfq_si (zfq_si (zfq_si (zfq_rf r m) (by omega) (by omega)) (by omega) (by omega)) (by omega) (by omega)
    generalize hm1 : si (si (si m (r + 9) (zopn s).length (zN (u * 100 + 99))) r 7 (zN ((zopn s).length + 1))) r 11 (zN (zwk s + 1)) = m1 at f1 ⊢
    have hU1 := zU_q hU0 f1
    have hm1' : ∀ a j, a ≠ r + 9 → ¬ (a = r ∧ j = 7) → ¬ (a = r ∧ j = 11) → gi m1 a j = gi m a j := fun a j p1 p2 p3 => by rw [← hm1, gi_ne p3, gi_ne p2, gi_ne (by omega)]
    obtain ⟨m2, w1, w2, w3, w4, w5, w6, w7, w8, w9⟩ := zc_noteBegun hu hU1 (b := (zbeg s).length) (by rw [hm1' _ _ (by omega) (by omega) (by omega)]; exact h4) (by omega)
    have hU2 := zU_q hU1 w2
    have hS2 := zSi_begin hwf hu h.1 h0 hw (by omega)
    have hC2 : zCr t m2 r P (zBegin P u s) := by
      refine zCr_new (by omega) h0 h.2.1 (fun a j p1 p2 p3 p4 p5 p6 p7 => ?_) (fun j p1 p2 p3 p4 p5 => ?_) w4 ?_ w5 (fun j hj => ?_) w7 (fun j hj => ?_) (fun x hx => ?_)
      · rw [w3 _ _ p3 p4 p5 (by omega), hm1' _ _ p6 (by omega) (by omega)]
      · rw [w3 _ _ (by omega) (by omega) (by omega) (by omega), hm1' _ _ (by omega) (by omega) (by omega)]
      · rw [w3 _ _ (by omega) (by omega) (by omega) (by omega), ← hm1, gi_si]
      · rw [w6 _ hj, hm1' _ _ (by omega) (by omega) (by omega)]
      · rw [w8 _ hj, hm1' _ _ (by omega) (by omega) (by omega)]
      · rw [w9 x]
        have hx2 := hx.2
        have hx1 := hx.1
        by_cases e : x / 12 = u
        · rw [e] at hx2
          rw [if_pos e, if_pos (by omega)]
        · have := (hwf.2.1 u hu).1
          rw [if_neg e, if_neg (by omega), hm1' _ _ (by omega) (by omega) (by omega)]
    have hO2 : zCo m2 r (zBegin P u s) := by
      refine ⟨?_, ⟨?_, ?_⟩, ?_⟩
      · rw [w3 _ _ (by omega) (by omega) (by omega) (by omega), ← hm1, gi_ne (by omega), gi_si]; rfl
      · rw [w3 _ _ (by omega) (by omega) (by omega) (by omega), ← hm1, gi_ne (by omega), gi_ne (by omega), gi_si]
      · refine zstk_fr (m := si m (r + 9) (zopn s).length (zN (u * 100 + 99))) (fun j => ?_) (zstk_ge (Nat.le_refl _) h.2.2.2.1)
        rw [w3 _ _ (by omega) (by omega) (by omega) (by omega), ← hm1, gi_ne (by omega), gi_ne (by omega)]
      · rw [w3 _ _ (by omega) (by omega) (by omega) (by omega), hm1' _ _ (by omega) (by omega) (by omega)]; exact h.2.2.2.2
    have hab : gi m2 (c + 2) u = zopt (zabv P u) := (hU2.2.2.2.2.2.1.2.2.1 u hu).2.1
    have g0' : gr m2 r 0 = some c := hU2.2.2.2.2.2.2.1
    have r2' : gr m2 c 2 = some (c + 2) := hU2.2.2.2.2.1.2.1
    have hob : (zopn (zBegin P u s)).length + k = 20 := by show (zopn s).length + 1 + k = 20; omega
    refine zQ_pre (zfq_tr f1 w2) (fun j _ => by rw [w3 _ _ (by omega) (by omega) (by omega) (by omega), hm1' _ _ (by omega) (by omega) (by omega)]) ?_
    simp (disch := omega) only [w1, zcv, zgr g0', zgr r2', zald, hab]
    cases ha : zabv P u with
    | none =>
      simp only [zopt, if_true]
      rw [zbind_0]
      exact zq_mems h2 iT iC oT oC hu (zcnt P u) nf 0 m2 _ (by have := (hwf.2.1 u hu).1; omega) (by omega) hU2 ⟨hS2, hC2, hO2⟩ hob rfl
    | some a =>
      have haz := (hwf.2.1 u hu).2.2.1 a ha
      have hI := iT a _ haz hS2 hob
      simp (disch := omega) only [zopt, zN_m, if_false]
      have hQ := hT m2 _ a haz hU2 ⟨hS2, hC2, hO2⟩ hob
      refine zQ_bindF (F := zClose u) (K := 8 * ((zopn s).length + 1)) hQ (by show _ ≤ 8 * ((zopn s).length + 1 + 1); omega) (fun m3 e0 f3 r3' o3 k3 _ => ?_) (fun m1 => by simp only [if_true]) (fun hne o' q => zQ_closeF q hne (fun g => (oT _ _ g).trans rfl))
      have ho3 : zopn (T a (zBegin P u s)).2.2 = (u * 100 + 99) :: zopn s := oT _ _ (by omega)
      simp only [zN10, if_false]
      have := zq_mems h2 iT iC oT oC hu (zcnt P u) nf 0 m3 _ (by have := (hwf.2.1 u hu).1; omega) (by omega) (zU_q hU2 f3) ⟨hI.1, r3', o3⟩ (by rw [ho3]; exact hob) ho3
      rw [ho3] at this
      exact this
  · rw [if_neg hw, if_pos (by omega)]
    exact zQ_much h
theorem zq_begin0 {u : Nat} {m : XM} {s : zS} (hU : zU N m r c P) (h : zCR t m r P s) (ho : (zopn s).length = 20) : zQ t m r P (8 * ((zopn s).length + 1)) (2, 0, s) False (fX2_beginUnit N R r (zN u) m) := by
  have hwk3 := h.1.2.2.2.1
  have h11 := h.2.1.2.2.2.2.2.1
  unfold fX2_beginUnit fX2_beginUnit_24
  simp (disch := omega) only [zv, h11, zN_lit, zN_le]
  by_cases hw : 3000 ≤ zwk s
  · rw [if_pos hw]; exact zQ_much h
  · rw [if_neg hw]
    simp only [zN_mul, zN_add]
    rw [zc_openUp hU h, if_neg (by omega)]
    simp only [zca, if_true]
    refine ⟨_, _, rfl, zfq_si (zfq_si (zfq_rf r m) (by omega) (by omega)) (by omega) (by omega), Nat.le_refl 2, fun g => (by cases g), fun g => (by cases g), fun _ => ⟨rfl, zCr_op (Or.inr (Or.inr rfl)) (zCr_op (Or.inr (Or.inr rfl)) h.2.1), gi_si _ _ _ _⟩⟩
end ZO
