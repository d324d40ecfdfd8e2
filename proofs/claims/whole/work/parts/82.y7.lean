/-! ===== y: the reference's run: units, calls, the group as a whole ===== -/
section YL
variable {N : Nat → Nat} {b : Bool} {k : Nat} {P : zP} {K : Nat → Int32} {R : Nat → Nat → Int32 → Int32 → XM → Option (Int32 × XM)} {T C : Nat → zS → zR}
theorem yMo_pop {m : XM} {s : zS} {x : Nat} {o : List Nat} (h : yMo m s) (e : zopn s = x :: o) : gi m 85 28 - zN 1 = zN o.length ∧ yMo (si m 85 28 (zN o.length)) (zs_opn s o) := by
  obtain ⟨h1, h2⟩ := h
  rw [e] at h1 h2
  refine ⟨by rw [h1, List.length_cons, ztopS], gi_si _ _ _ _, ysto_fr (fun k _ => ⟨gi_ne (by omega), gi_ne (by omega)⟩) h2.2.2⟩
/-- a unit's beginning ends -/
theorem yc_close {m m1 : XM} {u x : Nat} {o : List Nat} {r : zR} (hu : u < 7) (hW : yW N K m1 P) (q : yq b m m1 P r) (h1 : zst r.2.2 u = 1) (h2 : r.1 ≠ 2 → zopn r.2.2 = x :: o) : yV b m P (zClose u r) (fX9_comesTo_140 N R 85 (zN u) m1) := by
  obtain ⟨⟨⟨-, -, -, -, -, -, -, -, n94, -, -, n97, n98, n99, -⟩, ⟨-, -, -, -, -, -, -, -, g18, -, -, g21, g22, g23, -⟩, -⟩, -⟩ := hW
  obtain ⟨q1, q2, q3, q4, q5⟩ := q
  have hc : r.1 = 0 ∨ r.1 = 1 ∨ r.1 = 2 := by omega
  unfold fX9_comesTo_140 fX9_comesTo_212 zClose
  rcases hc with e | e | e
  · obtain ⟨a1, a2, a3⟩ := q3 e
    obtain ⟨p1, p2⟩ := yMo_pop a2 (h2 (by omega))
    rw [if_pos e, h2 (by omega)]
    simp (disch := omega) only [zv, a3, zN_lit, zN_eq, p1, gi_ne, if_true, zgr_si, zgr g18, zast, Nat.reduceEqDiff, if_false]
    refine ⟨_, rfl, yq_ok (yfq_si (yfq_si q1)) (yMr_done h1 (yMr_op (by omega) a1)) ?_ ?_⟩
    · exact yMo_si p2 (by omega) (by omega) (by omega)
    · rw [gi_ne (by omega), gi_ne (by omega)]; exact a3
  · obtain ⟨a1, a2, ⟨b1, b2, b3, b4⟩, a3⟩ := q4 e
    obtain ⟨p1, p2⟩ := yMo_pop a2 (h2 (by omega))
    rw [if_neg (by omega), if_pos e, h2 (by omega)]
    have hne : ¬ (1 : Nat) = 2 := by omega
    have hout : ∀ w, w = (zfl r.2.2).2.1 → yV b m P (1, 0, zs_fl (zs_brk (zs_opn (zs_st r.2.2 (zset (zst r.2.2) u 3)) o) (zset (zbrk r.2.2) u (zfl r.2.2))) ((zfl r.2.2).1, (zfl r.2.2).2.1, (zfl r.2.2).2.2 + 1)) (some (si (si (si (si (si (si m1 85 28 (zN o.length)) 94 u (zN 3)) 97 u (zN (zfl r.2.2).1)) 98 u w) 99 u (zN (zfl r.2.2).2.2)) 85 37 (zN ((zfl r.2.2).2.2 + 1)))) := fun w hw => by
      rw [hw]
      refine ⟨_, rfl, yfq_si (yfq_si (yfq_si (yfq_si (yfq_si (yfq_si q1))))), (by show 1 ≤ 2; omega), fun g => (by cases g), fun _ => ⟨?_, ?_, ⟨?_, ?_, ?_, b4⟩, ?_⟩, fun g => (by cases g)⟩
      · exact yMr_op (by omega) (yMr_brk (yMr_op (by omega) a1))
      · exact yMo_si (yMo_si (yMo_si (yMo_si (yMo_si p2 (by omega) (by omega) (by omega)) (by omega) (by omega) (by omega)) (by omega) (by omega) (by omega)) (by omega) (by omega) (by omega)) (by omega) (by omega) (by omega)
      · rw [gi_ne (by omega), gi_ne (by omega), gi_ne (by omega), gi_ne (by omega), gi_ne (by omega), gi_ne (by omega)]; exact b1
      · rw [gi_ne (by omega), gi_ne (by omega), gi_ne (by omega), gi_ne (by omega), gi_ne (by omega), gi_ne (by omega)]; exact b2
      · exact gi_si _ _ _ _
      · rw [gi_ne (by omega), gi_ne (by omega), gi_ne (by omega), gi_ne (by omega), gi_ne (by omega), gi_ne (by omega)]; exact a3
    simp (disch := omega) only [zv, a3, zN_lit, zN_eq, p1, gi_ne, if_true, zgr_si, zgr g18, zgr g21, zgr g22, zgr g23, zast, hne, zN10, if_false, b1, b2, b3, zneg, zN_add]
    rw [if_neg (by omega)]
    by_cases c : (zfl r.2.2).1 = 2
    · rw [if_pos c]
      exact hout _ rfl
    · rw [if_neg c]
      exact hout _ (by rcases b4 with c1 | c1; exact c1.2.symm; exact absurd c1 c)
  · obtain ⟨a1, a2⟩ := q5 e
    rw [if_neg (by omega), if_neg (by omega)]
    simp (disch := omega) only [zv, a2, zN_lit, if_true]
    exact ⟨m1, rfl, q1, q2, q3, q4, q5⟩
theorem yc_stop {m : XM} {u i n j : Nat} (hu : u < 7) (hi : i < 100) (hcn : zcnt P u ≤ 12) (hun : u < zn P) (hW : yW N K m P) (hj : j < 2) (h : gi m 85 30 = zN (j + 1)) : fX9_comesTo_100 N R (n + 1) 85 (zN u) (zN i) m = fX9_comesTo_140 N R 85 (zN u) m := by
  obtain ⟨⟨⟨-, -, n88, -⟩, ⟨-, -, g9, -⟩, -, ⟨-, -, -, hu0, -⟩⟩, -⟩ := hW
  have hc := (hu0 u hun).2.2.1
  unfold fX9_comesTo_100
  simp (disch := omega) only [zv, zgr g9, zN_lit, yo_unit, zca, hc, zN_le, h, zN_eq, Nat.add_eq_zero_iff, Nat.one_ne_zero, and_false, if_false]
  by_cases e : zcnt P u ≤ i
  · rw [if_pos e]
  · rw [if_neg e]
theorem yq_mems (hM : yQM N b K P k R T C) (iT : zIT P k T) (iC : zIC P k C) (oT : zKo T) (oC : zKo C) {u x : Nat} {o : List Nat} (k1T : zK1 u T) (k1C : zK1 u C) (hun : u < zn P) : ∀ (d n i : Nat) (m : XM) (s : zS), d < n → i + d = zcnt P u → yW N K m P → yMR b m P s → (zopn s).length + k = 20 → zopn s = x :: o → zst s u = 1 →
    yV b m P (zClose u (zMems P T C (zmb P u d i) s)) (fX9_comesTo_100 N R n 85 (zN u) (zN i) m) := by
  intro d
  induction d with
  | zero =>
    intro n i m s hn hi hW h ho hop h1
    obtain ⟨n, rfl⟩ : ∃ k, n = k + 1 := ⟨n - 1, by omega⟩
    have hwf := hW.1.2.2.1
    have hz := hwf.1
    have hcn := (hwf.2.1 u hun).1
    obtain ⟨⟨⟨-, -, n88, -⟩, ⟨-, -, g9, -⟩, -, ⟨-, -, -, hu0, -⟩⟩, -⟩ := id hW
    have hc := (hu0 u hun).2.2.1
    unfold fX9_comesTo_100
    simp (disch := omega) only [zv, zgr g9, zN_lit, yo_unit, zca, hc, zN_le]
    rw [if_pos (by omega)]
    exact yc_close (by omega) hW (yq_ok (yfq_rf m) h.2.1 h.2.2.1 h.2.2.2) h1 (fun _ => hop)
  | succ d ih =>
    intro n i m s hn hi hW h ho hop h1
    obtain ⟨n, rfl⟩ : ∃ k, n = k + 1 := ⟨n - 1, by omega⟩
    have hwf := hW.1.2.2.1
    have hz := hwf.1
    have hcn := (hwf.2.1 u hun).1
    obtain ⟨⟨⟨-, -, n88, -⟩, ⟨-, -, g9, -⟩, -, ⟨-, -, -, hu0, -⟩⟩, -⟩ := id hW
    have hc := (hu0 u hun).2.2.1
    have hp := (hu0 u hun).2.2.2 i (by omega)
    have hok := zplc_ok hwf hun (i := i) (by omega)
    have hdv : (12 * u + zplc P u i) / 12 = u := by
      have := (hwf.2.1 u hun).2.2.2 i (by omega)
      omega
    have hM1 := hM m s (12 * u + zplc P u i) hok (by rw [hdv]; exact h1) hW h ho
    rw [hdv, zmid_plc hwf hun (by omega)] at hM1
    have hI := zI_mem hwf iT iC oT oC hok h.1 ho
    have hS1 := zK1_mem (P := P) k1T k1C (12 * u + zplc P u i) s h1
    have hO := zKo_mem (P := P) oT oC (12 * u + zplc P u i) s
    unfold fX9_comesTo_100
    simp (disch := omega) only [zv, zgr g9, zN_lit, yo_unit, zca, hc, zN_le, h.2.2.2, if_true, yo_memb, hp]
    rw [if_neg (by omega)]
    show yV b m P (zClose u (zbind (zMem P T C (12 * u + zplc P u i) s) fun _ s1 => zMems P T C (zmb P u d (i + 1)) s1)) _
    obtain ⟨v, m1, w1, q, -⟩ := hM1
    rw [w1]
    simp only [Option.map_some, zcv, zN_add]
    generalize zMem P T C (12 * u + zplc P u i) s = r at *
    have hW1 := yW_q hW q.1
    by_cases e : r.1 = 0
    · obtain ⟨a1, a2, a3⟩ := q.2.2.1 e
      have ho1 := hO (by omega)
      rw [zbind_p e]
      exact yV_pre q.1 (ih n (i + 1) m1 r.2.2 (by omega) (by omega) hW1 ⟨hI.1, a1, a2, a3⟩ (by rw [ho1]; exact ho) (ho1.trans hop) hS1)
    · obtain ⟨j, j1, j2⟩ := yq_st q e
      obtain ⟨n, rfl⟩ : ∃ k, n = k + 1 := ⟨n - 1, by omega⟩
      rw [zbind_n e, yc_stop (by omega) (by omega) hcn hun hW1 j1 j2]
      exact yc_close (by omega) hW1 q hS1 (fun g => (hO g).trans hop)
/-- coming to a unit -/
theorem yq_comes {u : Nat} {m : XM} {s : zS} {B : zR} (hu : u < zn P) (hW : yW N K m P) (h : yMR b m P s) (hB : zst s u = 0 → yV b m P B (xca (fX9_opens N 85 (zN u) (zN 99) m) fun v6 m5 => if v6 = zN 0 then some m5 else (xca (fX9_works N 85 m5) fun v8 m7 => if v8 = zN 0 then some m7 else (xgr m7 85 18 fun u9 => xast N m7 u9 (zN u) (zN 1) fun m10 => xgr m10 85 19 fun u11 => xv (gi m10 85 27) fun v12 => xast N m10 u11 v12 (zN u) fun m13 => xv (gi m13 85 27) fun v14 => xv (v14 + zN 1) fun v15 => xv (si m13 85 27 v15) fun m16 => xgr m16 85 9 fun u17 => xca (fX9_unitOf N u17 (zN u) (zN 1) m16) fun v19 m18 => if v19 = zM then fX9_comesTo_98 N R 85 (zN u) m18 else (xgr m18 85 9 fun u20 => xca (fX9_unitOf N u20 (zN u) (zN 1) m18) fun v22 m21 => xcv ((R 0 85 v22 (zN 0) m21).map Prod.snd) fun m23 => fX9_comesTo_98 N R 85 (zN u) m23))))) :
    yV b m P (if zst s u = 0 then B else if zst s u = 3 then (1, 0, zs_fl s (2, zN u, 0)) else (0, 0, s)) (fX9_comesTo N R 85 (zN u) m) := by
  have hz := hW.1.2.2.1.1
  obtain ⟨⟨⟨-, -, -, -, -, -, -, -, n94, -⟩, ⟨-, -, -, -, -, -, -, -, g18, -⟩, -⟩, -⟩ := id hW
  have h3 := h.1.1 u
  have hst := h.2.1.1 u (by omega)
  unfold fX9_comesTo
  rw [zgr g18, zald (by omega) (by omega), zgr g18, zald (by omega) (by omega), hst]
  simp only [zN_lit, zneg]
  by_cases e0 : zst s u = 0
  · rw [if_pos e0, e0, if_neg (by rw [zN_eq (by omega) (by omega)]; omega), if_pos rfl]
    exact hB e0
  · by_cases e3 : zst s u = 3
    · rw [if_neg e0, if_pos e3, e3, if_pos rfl, yc_fails, zcv]
      exact ⟨_, rfl, yq_fail h (Or.inr rfl)⟩
    · rw [if_neg e0, if_neg e3, if_neg (by rw [zN_eq (by omega) (by omega)]; exact e3), if_neg (by rw [zN_eq (by omega) (by omega)]; exact e0)]
      exact ⟨m, rfl, yq_ok (yfq_rf m) h.2.1 h.2.2.1 h.2.2.2⟩
theorem yq_new (hT : yQT N b K P k R T) (hM : yQM N b K P k R T C) (iT : zIT P k T) (iC : zIC P k C) (oT : zKo T) (oC : zKo C) {u : Nat} {m : XM} {s : zS} (k1T : zK1 u T) (k1C : zK1 u C) (hun : u < zn P) (hW : yW N K m P) (h : yMR b m P s) (h0 : zst s u = 0) (ho : (zopn s).length + (k + 1) = 20) :
    yV b m P (if zwk s < 3000 then zClose u (zbind (match zabv P u with
            | none => (0, 0, zBegin P u s)
            | some a => T a (zBegin P u s)) fun _ s1 => zMems P T C (zmbs P u) s1) else (2, 0, s))
      (xca (fX9_opens N 85 (zN u) (zN 99) m) fun v6 m5 => if v6 = zN 0 then some m5 else (xca (fX9_works N 85 m5) fun v8 m7 => if v8 = zN 0 then some m7 else (xgr m7 85 18 fun u9 => xast N m7 u9 (zN u) (zN 1) fun m10 => xgr m10 85 19 fun u11 => xv (gi m10 85 27) fun v12 => xast N m10 u11 v12 (zN u) fun m13 => xv (gi m13 85 27) fun v14 => xv (v14 + zN 1) fun v15 => xv (si m13 85 27 v15) fun m16 => xgr m16 85 9 fun u17 => xca (fX9_unitOf N u17 (zN u) (zN 1) m16) fun v19 m18 => if v19 = zM then fX9_comesTo_98 N R 85 (zN u) m18 else (xgr m18 85 9 fun u20 => xca (fX9_unitOf N u20 (zN u) (zN 1) m18) fun v22 m21 => xcv ((R 0 85 v22 (zN 0) m21).map Prod.snd) fun m23 => fX9_comesTo_98 N R 85 (zN u) m23)))) := by
  have hwf := hW.1.2.2.1
  have hz := hwf.1
  have hcn := (hwf.2.1 u hun).1
  have hbl : (zbeg s).length < 7 := by
    have h1 := h.1.2.2.2.2.2.2.2.1
    have h2 := zfree_set (f := zst s) (u := u) (v := 1) (by omega) h0 (by omega)
    omega
  rw [yc_opens hW.1 h, if_pos (show (zopn s).length < 20 by omega)]
  simp only [zca, zN10, if_false]
  have f1 : yfq m (si (si (si m 100 (zopn s).length (zN u)) 101 (zopn s).length (zN 99)) 85 28 (zN ((zopn s).length + 1))) := yfq_si (yfq_si (yfq_si (yfq_rf m)))
  have hR1 : yMR b (si (si (si m 100 (zopn s).length (zN u)) 101 (zopn s).length (zN 99)) 85 28 (zN ((zopn s).length + 1))) P (zs_opn s ((u * 100 + 99) :: zopn s)) := by
    refine ⟨zSi_opn h.1 (by show (zopn s).length + 1 ≤ 20; omega) (fun z hz' => ?_), ?_, ⟨gi_si _ _ _ _, ?_, ?_, ?_⟩, ?_⟩
    · rcases List.mem_cons.mp hz' with e | e
      · omega
      · exact h.1.2.2.1 z e
    · exact yMr_op (by omega) (yMr_oc (by omega) (yMr_oc (by omega) h.2.1))
    · rw [gi_ne (by omega), gi_ne (by omega), Nat.zero_add, gi_si, show (u * 100 + 99) / 100 = u by omega]
    · rw [gi_ne (by omega), Nat.zero_add, gi_si, show (u * 100 + 99) % 100 = 99 by omega]
    · exact ysto_fr (fun j hj => ⟨by rw [gi_ne (by omega), gi_ne (by omega), gi_ne (by omega)], by rw [gi_ne (by omega), gi_ne (by omega), gi_ne (by omega)]⟩) h.2.2.1.2
    · rw [gi_ne (by omega), gi_ne (by omega), gi_ne (by omega)]; exact h.2.2.2
  refine yV_pre f1 ?_
  have hW1 := yW_q hW f1
  have hMs : yMr b (si (si (si m 100 (zopn s).length (zN u)) 101 (zopn s).length (zN 99)) 85 28 (zN ((zopn s).length + 1))) P s := yMr_op (by omega) (yMr_oc (by omega) (yMr_oc (by omega) h.2.1))
  generalize si (si (si m 100 (zopn s).length (zN u)) 101 (zopn s).length (zN 99)) 85 28 (zN ((zopn s).length + 1)) = m1 at hW1 hR1 hMs
  rw [yc_works hR1]
  by_cases hw : zwk s < 3000
  · rw [if_pos hw]
    have hw' : zwk (zs_opn s ((u * 100 + 99) :: zopn s)) < 3000 := hw
    rw [if_pos hw']
    obtain ⟨⟨⟨-, -, n88, -, -, -, -, -, n94, n95, -⟩, ⟨-, -, g9, -, -, -, -, -, g18, g19, -⟩, -, ⟨-, -, -, hu0, -⟩⟩, hK⟩ := id hW1
    have h27 : gi m1 85 27 = zN (zbeg s).length := hR1.2.1.2.2.2.1
    have hab := (hu0 u hun).2.1
    simp (disch := omega) only [zca, zN10, if_false, zgr_si, zgr g18, zast, zgr g19, zv, gi_ne, h27, zN_add, zgr g9, yo_unit, hab]
    have hwk1 : zwk (zs_opn s ((u * 100 + 99) :: zopn s)) = zwk s := rfl
    rw [hwk1]
    have f2 : yfq m1 (si (si (si (si m1 85 29 (zN (zwk s + 1))) 94 u (zN 1)) 95 (zbeg s).length (zN u)) 85 27 (zN ((zbeg s).length + 1))) := yfq_si (yfq_si (yfq_si (yfq_si (yfq_rf m1))))
    have hR2 : yMR b (si (si (si (si m1 85 29 (zN (zwk s + 1))) 94 u (zN 1)) 95 (zbeg s).length (zN u)) 85 27 (zN ((zbeg s).length + 1))) P (zBegin P u s) := by
      refine ⟨zSi_begin hwf hun h.1 h0 hw (by omega), ?_, ?_, ?_⟩
      · exact yMr_new h0 hMs
      · exact yMo_si (yMo_si (yMo_si (yMo_si hR1.2.2.1 (by omega) (by omega) (by omega)) (by omega) (by omega) (by omega)) (by omega) (by omega) (by omega)) (by omega) (by omega) (by omega)
      · rw [gi_ne (by omega), gi_ne (by omega), gi_ne (by omega), gi_ne (by omega)]; exact hR1.2.2.2
    refine yV_pre f2 ?_
    have hW2 := yW_q hW1 f2
    generalize si (si (si (si m1 85 29 (zN (zwk s + 1))) 94 u (zN 1)) 95 (zbeg s).length (zN u)) 85 27 (zN ((zbeg s).length + 1)) = m2 at hW2 hR2
    have hop : zopn (zBegin P u s) = (u * 100 + 99) :: zopn s := rfl
    have hst : zst (zBegin P u s) u = 1 := zset_eq _ _ _
    have hol : (zopn (zBegin P u s)).length + k = 20 := by show (zopn s).length + 1 + k = 20; omega
    generalize zBegin P u s = s2 at hR2 hop hst hol
    unfold fX9_comesTo_98
    have hX := zXF
    revert hX
    generalize XF = nf
    intro hX
    simp only [zN_lit]
    cases ha : zabv P u with
    | none =>
      simp only [zopt, if_true]
      exact yq_mems hM iT iC oT oC k1T k1C hun (zcnt P u) nf 0 m2 s2 (by omega) (by omega) hW2 hR2 hol hop hst
    | some a =>
      have ha7 := (hwf.2.1 u hun).2.2.1 a ha
      simp (disch := omega) only [zopt, zN_m, if_false]
      obtain ⟨v, m3, w1, q, -⟩ := hT m2 s2 a ha7 hW2 hR2 hol
      have hI := iT a s2 ha7 hR2.1 hol
      have hS1 := k1T a s2 hst
      have hO := oT a s2
      rw [w1]
      simp only [Option.map_some, zcv]
      generalize T a s2 = r at *
      have hW3 := yW_q hW2 q.1
      by_cases e : r.1 = 0
      · obtain ⟨a1, a2, a3⟩ := q.2.2.1 e
        have ho1 := hO (by omega)
        rw [zbind_p e]
        exact yV_pre q.1 (yq_mems hM iT iC oT oC k1T k1C hun (zcnt P u) nf 0 m3 r.2.2 (by omega) (by omega) hW3 ⟨hI.1, a1, a2, a3⟩ (by rw [ho1]; exact hol) (ho1.trans hop) hS1)
      · obtain ⟨j, j1, j2⟩ := yq_st q e
        obtain ⟨n, rfl⟩ : ∃ k, nf = k + 1 := ⟨nf - 1, by omega⟩
        rw [zbind_n e, yc_stop (by omega) (by omega) hcn hun hW3 j1 j2]
        exact yc_close (by omega) hW3 q hS1 (fun g => (hO g).trans hop)
  · rw [if_neg hw]
    have hw' : ¬ zwk (zs_opn s ((u * 100 + 99) :: zopn s)) < 3000 := hw
    rw [if_neg hw']
    simp only [zca, if_true]
    obtain ⟨c1, c2, c3, c4, c5⟩ := yq_much hR1
    exact ⟨_, rfl, c1, c2, fun g => (by cases g), fun g => (by cases g), fun _ => c5 rfl⟩
theorem yq_new0 {u : Nat} {m : XM} {s : zS} {κ : XM → Option XM} (hW : yW N K m P) (h : yMR b m P s) (ho : (zopn s).length = 20) :
    yV b m P (2, 0, s) (xca (fX9_opens N 85 (zN u) (zN 99) m) fun v6 m5 => if v6 = zN 0 then some m5 else κ m5) := by
  rw [yc_opens hW.1 h, if_neg (show ¬ (zopn s).length < 20 by omega)]
  simp only [zca, if_true]
  exact ⟨_, rfl, yq_much h⟩
/-- a function's end -/
theorem yc_end {m m1 : XM} {v : Int32} {x : Nat} {o : List Nat} {r : zR} (q : yq b m m1 P r) (hv : r.1 = 0 → v = r.2.1) (h2 : r.1 ≠ 2 → zopn r.2.2 = x :: o) : yQ b m P (zPop r) True (fX9_calls_86 N R 85 v m1) := by
  obtain ⟨q1, q2, q3, q4, q5⟩ := q
  have hc : r.1 = 0 ∨ r.1 = 1 ∨ r.1 = 2 := by omega
  unfold fX9_calls_86 zPop
  rcases hc with e | e | e
  · obtain ⟨a1, a2, a3⟩ := q3 e
    obtain ⟨p1, p2⟩ := yMo_pop a2 (h2 (by omega))
    rw [if_neg (by omega), h2 (by omega), e]
    simp (disch := omega) only [zv, a3, zN_lit, zN_eq, p1, Nat.reduceEqDiff, if_false]
    exact ⟨_, _, rfl, yq_ok (yfq_si q1) (yMr_op (by omega) a1) p2 (by rw [gi_ne (by omega)]; exact a3), fun _ _ => hv e⟩
  · obtain ⟨a1, a2, ⟨b1, b2, b3, b4⟩, a3⟩ := q4 e
    obtain ⟨p1, p2⟩ := yMo_pop a2 (h2 (by omega))
    rw [if_neg (by omega), h2 (by omega), e]
    have hne : ¬ (1 : Nat) = 2 := by omega
    simp (disch := omega) only [zv, a3, zN_lit, zN_eq, p1, hne, if_false]
    refine ⟨_, _, rfl, ⟨yfq_si q1, (by show 1 ≤ 2; omega), fun g => (by cases g), fun _ => ⟨yMr_op (by omega) a1, p2, ⟨?_, ?_, ?_, b4⟩, ?_⟩, fun g => (by cases g)⟩, fun g => (by cases g)⟩
    · rw [gi_ne (by omega)]; exact b1
    · rw [gi_ne (by omega)]; exact b2
    · rw [gi_ne (by omega)]; exact b3
    · rw [gi_ne (by omega)]; exact a3
  · obtain ⟨a1, a2⟩ := q5 e
    rw [if_pos (by omega)]
    simp (disch := omega) only [zv, a2, zN_lit, if_true]
    exact ⟨_, m1, rfl, ⟨q1, q2, q3, q4, q5⟩, fun g => (by omega)⟩
theorem yq_dos (hA : yQA N b K P k R T C) (hS : yQS N b K P k R T C 9) (iT : zIT P k T) (iC : zIC P k C) (oT : zKo T) (oC : zKo C) {x f a n0 y : Nat} {o : List Nat} {g : List zCode} (hx : zok P x) (hxf : K (110 + 5 * zmid P x + 2) = zN f) (hxn : K (110 + 5 * zmid P x + 3) = zN n0) (hxa : n0 ≠ 0 → K (110 + 5 * zmid P x + 4) = zN a) (hg : ySum K P f g) (hgk : ycok P g) (hn0 : n0 ≤ 4) (ha : n0 ≠ 0 → a < 1000) : ∀ (l : List zDeed) (n i : Nat) (v : Int32) (m : XM) (s : zS), l.length < n → i + l.length = n0 → yacts K P (a + i) l → (∀ d ∈ l, zdok P d) → yW N K m P → yMR b m P s → (zopn s).length + k = 20 → zopn s = y :: o →
    yQ b m P (zPop (zDos P T C (l ++ [(g, none)]) v s)) True (fX9_calls_21 N R n 85 (zN (zmid P x)) (zN i) m) := by
  intro l
  induction l with
  | nil =>
    intro n i v m s hn hi hya hok hW h ho hop
    obtain ⟨n, rfl⟩ : ∃ k, n = k + 1 := ⟨n - 1, by simp at hn; omega⟩
    simp only [List.length_nil] at hi
    have hwf := hW.1.2.2.1
    have hmid := zmid_lt hwf hx
    obtain ⟨⟨⟨-, -, n88, -⟩, ⟨-, -, g9, -⟩, -⟩, hK⟩ := id hW
    have hK' : ∀ j, gi m 88 j = K j := fun j => congrFun hK j
    have e : zDos P T C ([] ++ [(g, none)]) v s = zEv P T C g [] s := by
      show zbind (zbind (zEv P T C g [] s) fun v s1 => (0, v, s1)) (fun v s1 => (0, v, s1)) = _
      rw [zbind_id, zbind_id]
    rw [e]
    unfold fX9_calls_21 fX9_calls_62
    simp (disch := omega) only [zv, zgr g9, zN_lit, yo_mem, hK', hxn, zca, zN_le, h.2.2.2, if_true, hxf]
    rw [if_pos (by omega)]
    obtain ⟨w, m1, w1, w2, w3⟩ := hS m s f g hg hgk hW h ho
    rw [w1, zca]
    exact yc_end w2 (fun e => w3 e trivial) (fun e => (zKo_ev oT oC g [] s e).trans hop)
  | cons d l ih =>
    intro n i v m s hn hi hya hok hW h ho hop
    simp only [List.length_cons] at hn hi
    obtain ⟨n, rfl⟩ : ∃ k, n = k + 1 := ⟨n - 1, by omega⟩
    have hwf := hW.1.2.2.1
    have hmid := zmid_lt hwf hx
    obtain ⟨⟨⟨-, -, n88, -⟩, ⟨-, -, g9, -⟩, -⟩, hK⟩ := id hW
    have hK' : ∀ j, gi m 88 j = K j := fun j => congrFun hK j
    obtain ⟨c1, c2⟩ := hya
    have hd := hok d List.mem_cons_self
    have hxa := hxa (by omega)
    have ha := ha (by omega)
    unfold fX9_calls_21
    simp (disch := omega) only [zv, zgr g9, zN_lit, yo_mem, hK', hxn, zca, zN_le, h.2.2.2, if_true, hxa, zN_add]
    rw [if_neg (by omega)]
    show yQ b m P (zPop (zbind (zDo P T C d s) fun v s1 => zDos P T C (l ++ [(g, none)]) v s1)) True _
    obtain ⟨w, m1, w1, q, -⟩ := hA m s (a + i) d c1 hd hW h ho
    have hI := zI_do hwf iT iC oT oC hd h.1 ho
    have hO := zKo_do (P := P) oT oC d s
    rw [w1]
    simp only [Option.map_some, zcv]
    generalize zDo P T C d s = r at *
    have hW1 := yW_q hW q.1
    by_cases e : r.1 = 0
    · obtain ⟨a1, a2, a3⟩ := q.2.2.1 e
      have ho1 := hO (by omega)
      rw [zbind_p e]
      exact yQ_pre q.1 (ih n (i + 1) r.2.1 m1 r.2.2 (by omega) (by omega) c2 (fun z hz => hok z (List.mem_cons_of_mem _ hz)) hW1 ⟨hI.1, a1, a2, a3⟩ (by rw [ho1]; exact ho) (ho1.trans hop))
    · obtain ⟨j, j1, j2⟩ := yq_st q e
      obtain ⟨n, rfl⟩ : ∃ k, n = k + 1 := ⟨n - 1, by omega⟩
      rw [zbind_n e]
      have hend := yc_end (N := N) (R := R) (v := zN 0) q (fun g => absurd g e) (fun g => (hO g).trans hop)
      obtain ⟨⟨⟨-, -, n88, -⟩, ⟨-, -, g9, -⟩, -⟩, hK⟩ := id hW1
      have hK' : ∀ j, gi m1 88 j = K j := fun j => congrFun hK j
      unfold fX9_calls_21 fX9_calls_62
      simp (disch := omega) only [zv, zgr g9, zN_lit, yo_mem, hK', hxn, zca, zN_le, j2, zN_eq, Nat.add_eq_zero_iff, Nat.one_ne_zero, and_false, if_false]
      by_cases e2 : n0 ≤ i + 1
      · rw [if_pos e2]; exact hend
      · rw [if_neg e2]; exact hend
theorem yq_call (hA : yQA N b K P k R T C) (hS : yQS N b K P k R T C 9) (iT : zIT P k T) (iC : zIC P k C) (oT : zKo T) (oC : zKo C) {x : Nat} {m : XM} {s : zS} (hx : zok P x) (hxk : zknd P x = 4) (hW : yW N K m P) (h : yMR b m P s) (ho : (zopn s).length + (k + 1) = 20) :
    yQ b m P (zPop (zDos P T C (zfun P x) 0 (zs_opn s ((x / 12 * 100 + (znam P x).getD 0) :: zopn s)))) True (fX9_calls N R 85 (zN (x / 12)) (zN (zmid P x)) m) := by
  have hwf := hW.1.2.2.1
  have h84 := zok_84 hwf hx
  have hmid := zmid_lt hwf hx
  obtain ⟨⟨⟨-, -, n88, -⟩, ⟨-, -, g9, -⟩, -, ⟨-, -, -, -, hm, -⟩⟩, hK⟩ := id hW
  have hK' : ∀ j, gi m 88 j = K j := fun j => congrFun hK j
  obtain ⟨⟨-, y1, -, -, -, y5⟩, -⟩ := hm x hx
  rw [hK] at y1 y5
  obtain ⟨f, a, l, g, p1, p2, p3, p4, p5, p6, p7⟩ := y5 hxk
  have hx3 := hwf.2.2.1 x hx
  obtain ⟨-, -, hnm⟩ := hx3.2.2.2.1 hxk
  obtain ⟨y, hy⟩ := Option.isSome_iff_exists.mp hnm
  have hy26 := hx3.2.2.2.2.2 y hy
  have e1 := y1 (by omega)
  rw [hy] at e1
  simp only [zopt] at e1
  unfold fX9_calls
  simp (disch := omega) only [zgr g9, zN_lit, yo_mem, hK', e1, zca]
  rw [yc_opens hW.1 h, if_pos (show (zopn s).length < 20 by omega), hy]
  simp only [zca, zN10, if_false, Option.getD_some]
  have f1 : yfq m (si (si (si m 100 (zopn s).length (zN (x / 12))) 101 (zopn s).length (zN y)) 85 28 (zN ((zopn s).length + 1))) := yfq_si (yfq_si (yfq_si (yfq_rf m)))
  have hR1 : yMR b (si (si (si m 100 (zopn s).length (zN (x / 12))) 101 (zopn s).length (zN y)) 85 28 (zN ((zopn s).length + 1))) P (zs_opn s ((x / 12 * 100 + y) :: zopn s)) := by
    refine ⟨zSi_opn h.1 (by show (zopn s).length + 1 ≤ 20; omega) (fun z hz' => ?_), ?_, ⟨gi_si _ _ _ _, ?_, ?_, ?_⟩, ?_⟩
    · rcases List.mem_cons.mp hz' with e | e
      · omega
      · exact h.1.2.2.1 z e
    · exact yMr_op (by omega) (yMr_oc (by omega) (yMr_oc (by omega) h.2.1))
    · rw [gi_ne (by omega), gi_ne (by omega), Nat.zero_add, gi_si, show (x / 12 * 100 + y) / 100 = x / 12 by omega]
    · rw [gi_ne (by omega), Nat.zero_add, gi_si, show (x / 12 * 100 + y) % 100 = y by omega]
    · exact ysto_fr (fun j hj => ⟨by rw [gi_ne (by omega), gi_ne (by omega), gi_ne (by omega)], by rw [gi_ne (by omega), gi_ne (by omega), gi_ne (by omega)]⟩) h.2.2.1.2
    · rw [gi_ne (by omega), gi_ne (by omega), gi_ne (by omega)]; exact h.2.2.2
  refine yQ_pre f1 ?_
  have hX := zXF
  revert hX
  generalize XF = nf
  intro hX
  have hdl : ∀ d ∈ l, zdok P d := fun d hd => hx3.2.2.1 d (by rw [p7]; exact List.mem_append_left _ hd)
  have hgk : ycok P g := (hx3.2.2.1 (g, none) (by rw [p7]; exact List.mem_append_right _ List.mem_cons_self)).1.2
  rw [p7]
  refine yq_dos hA hS iT iC oT oC hx p1 p3 (fun _ => p4) p2 hgk p5 (fun hne => ?_) l nf 0 0 _ _ (by omega) (by omega) p6 hdl (yW_q hW f1) hR1 (by show (zopn s).length + 1 + k = 20; omega) rfl
  cases l with
  | nil => exact absurd rfl hne
  | cons d l => have := p6.1.1; omega
theorem yq_call0 {x : Nat} {m : XM} {s : zS} (hx : zok P x) (hxk : zknd P x = 4) (hW : yW N K m P) (h : yMR b m P s) (ho : (zopn s).length = 20) : yQ b m P (2, 0, s) True (fX9_calls N R 85 (zN (x / 12)) (zN (zmid P x)) m) := by
  have hmid := zmid_lt hW.1.2.2.1 hx
  obtain ⟨⟨⟨-, -, n88, -⟩, ⟨-, -, g9, -⟩, -⟩, -⟩ := id hW
  unfold fX9_calls
  simp (disch := omega) only [zgr g9, zN_lit, yo_mem, zca]
  rw [yc_opens hW.1 h, if_neg (show ¬ (zopn s).length < 20 by omega)]
  simp only [zca, if_true]
  exact ⟨_, _, rfl, yq_much h, fun g => (by cases g)⟩
end YL
