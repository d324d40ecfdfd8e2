/-! ===== t: a member comes, of both ===== -/
/-- a member of the latest unit comes behind the others -/
def qadd (Q : pQ) (u k : Nat) (a v e : Option Nat) : pQ := ((qn Q, qlet Q, qabv Q, zset (qcnt Q) u (qcnt Q u + 1)), (zset (qknd Q) (12 * u + qcnt Q u) k, zset (qnam Q) (12 * u + qcnt Q u) a, zset (qnum Q) (12 * u + qcnt Q u) v, zset (qded Q) (12 * u + qcnt Q u) e), (qul Q, fun u' a' => if u' = u ∧ a = some a' then some (12 * u + qcnt Q u) else qnm Q u' a'), qstp Q)
def cadm (m : XM) (d x k u c : Nat) : XM := si (si (si (si (si (si (si m (d + 4) x (zN k)) (d + 5) x zM) (d + 6) x zM) (d + 7) x zM) (d + 8) x (zN 1)) (d + 9) x (zN x)) (d + 3) u (zN (c + 1))
def radm (w : XM) (u M c : Nat) (k a A B C : Int32) : XM := si (si (si (si (si (si (si (si w 89 (110 + 5 * M) k) 89 (110 + 5 * M + 1) a) 89 (110 + 5 * M + 2) A) 89 (110 + 5 * M + 3) B) 89 (110 + 5 * M + 4) C) 89 1 (zN (M + 1))) 89 (5 + 15 * u + 3 + c) (zN M)) 89 (5 + 15 * u + 2) (zN (c + 1))
section TS
variable {N : Nat → Nat} {b : Nat → Nat} {n d i : Nat} {Q : pQ} {DL : List pD} {nt na : Nat} {m m' w w' : XM}
theorem c_adm (h : cR N d m) {x k u c : Nat} (hx : x < 84) (hu : x / 12 = u) (hu7 : u < 7) (hc : gi m (d + 3) u = zN c) : fX6_addMember N d (zN x) (zN k) m = some (cadm m d x k u c) := by
  obtain ⟨h0, ⟨-, -, n3, n4, n5, n6, n7, n8, n9, -⟩, -, ⟨-, -, g3, g4, g5, g6, g7, g8, g9, -⟩, -⟩ := h
  unfold fX6_addMember
  simp (disch := omega) only [zgr g4, zast, zgr_si, zgr g5, zgr g6, zgr g7, zgr g8, zgr g9, zgr g3, zN_lit, zneg, zdv, zN_div, zv, hu, zald, gi_ne, hc, zN_add]
  rfl
theorem cadm_n {x k u c z j : Nat} (h : ¬ (z = d + 3 ∧ j = u)) (h1 : ¬ (d + 4 ≤ z ∧ z ≤ d + 9 ∧ j = x)) : gi (cadm m d x k u c) z j = gi m z j := by
  unfold cadm
  rw [gi_ne (by omega), gi_ne (by omega), gi_ne (by omega), gi_ne (by omega), gi_ne (by omega), gi_ne (by omega), gi_ne (by omega)]
theorem cadm_o {x k u c : Nat} : gi (cadm m d x k u c) (d + 4) x = zN k ∧ gi (cadm m d x k u c) (d + 5) x = zM ∧ gi (cadm m d x k u c) (d + 6) x = zM ∧ gi (cadm m d x k u c) (d + 7) x = zM ∧ gi (cadm m d x k u c) (d + 8) x = zN 1 ∧ gi (cadm m d x k u c) (d + 9) x = zN x ∧ gi (cadm m d x k u c) (d + 3) u = zN (c + 1) := by
  unfold cadm
  refine ⟨?_, ?_, ?_, ?_, ?_, ?_, gi_si _ _ _ _⟩
  · rw [gi_ne (by omega), gi_ne (by omega), gi_ne (by omega), gi_ne (by omega), gi_ne (by omega), gi_ne (by omega), gi_si]
  · rw [gi_ne (by omega), gi_ne (by omega), gi_ne (by omega), gi_ne (by omega), gi_ne (by omega), gi_si]
  · rw [gi_ne (by omega), gi_ne (by omega), gi_ne (by omega), gi_ne (by omega), gi_si]
  · rw [gi_ne (by omega), gi_ne (by omega), gi_ne (by omega), gi_si]
  · rw [gi_ne (by omega), gi_ne (by omega), gi_si]
  · rw [gi_ne (by omega), gi_si]
theorem cadm_S {x k u c : Nat} (h : cS N b n d i m) : cS N b n d i (cadm m d x k u c) := by
  have hd := h.1.1
  exact cS_g (m' := cadm m d x k u c) h (fun _ _ => rfl) (fun a j q => cadm_n (by omega) (by omega)) (by rw [cadm_n (by omega) (by omega)]; exact h.2.2.2.2.2.2) h.2.2.2.2.2.1
theorem r_adm (h : rN N w) {u M c : Nat} (hu : u < 7) (hM : M < 84) (hc : c < 12) (h1 : gi w 89 1 = zN M) (h2 : gi w 89 (5 + 15 * u + 2) = zN c) (k a A B C : Int32) : fX9_addsMember N 85 (zN u) k a A B C w = some (radm w u M c k a A B C) := by
  obtain ⟨n1, n2⟩ := h
  unfold fX9_addsMember
  simp (disch := omega) only [zgr n2, zgr_si, zN_lit, zv, zald, h1, zN_mul, zN_add, zast, gi_ne, gi_si, h2]
  rfl
theorem radm_n {u M c : Nat} {k a A B C : Int32} {z j : Nat} (hc : c < 12) (h : ¬ (z = 89 ∧ (j = 1 ∨ j = 5 + 15 * u + 3 + c ∨ j = 5 + 15 * u + 2 ∨ 110 + 5 * M ≤ j ∧ j < 110 + 5 * M + 5))) : gi (radm w u M c k a A B C) z j = gi w z j := by
  unfold radm
  rw [gi_ne (by omega), gi_ne (by omega), gi_ne (by omega), gi_ne (by omega), gi_ne (by omega), gi_ne (by omega), gi_ne (by omega), gi_ne (by omega)]
theorem radm_o {u M c : Nat} {k a A B C : Int32} (hu : u < 7) (hc : c < 12) : gi (radm w u M c k a A B C) 89 (110 + 5 * M) = k ∧ gi (radm w u M c k a A B C) 89 (110 + 5 * M + 1) = a ∧ gi (radm w u M c k a A B C) 89 (110 + 5 * M + 2) = A ∧ gi (radm w u M c k a A B C) 89 (110 + 5 * M + 3) = B ∧ gi (radm w u M c k a A B C) 89 (110 + 5 * M + 4) = C ∧ gi (radm w u M c k a A B C) 89 1 = zN (M + 1) ∧ gi (radm w u M c k a A B C) 89 (5 + 15 * u + 3 + c) = zN M ∧ gi (radm w u M c k a A B C) 89 (5 + 15 * u + 2) = zN (c + 1) := by
  unfold radm
  refine ⟨?_, ?_, ?_, ?_, ?_, ?_, ?_, gi_si _ _ _ _⟩
  · rw [gi_ne (by omega), gi_ne (by omega), gi_ne (by omega), gi_ne (by omega), gi_ne (by omega), gi_ne (by omega), gi_ne (by omega), gi_si]
  · rw [gi_ne (by omega), gi_ne (by omega), gi_ne (by omega), gi_ne (by omega), gi_ne (by omega), gi_ne (by omega), gi_si]
  · rw [gi_ne (by omega), gi_ne (by omega), gi_ne (by omega), gi_ne (by omega), gi_ne (by omega), gi_si]
  · rw [gi_ne (by omega), gi_ne (by omega), gi_ne (by omega), gi_ne (by omega), gi_si]
  · rw [gi_ne (by omega), gi_ne (by omega), gi_ne (by omega), gi_si]
  · rw [gi_ne (by omega), gi_ne (by omega), gi_si]
  · rw [gi_ne (by omega), gi_si]
theorem radm_S {u M c : Nat} {k a A B C : Int32} (hc : c < 12) (h : rS N b n i w) : rS N b n i (radm w u M c k a A B C) := rS_w (w' := radm w u M c k a A B C) h (fun _ _ => rfl) (fun j _ => radm_n hc (by omega)) (fun j => radm_n hc (by omega))
/-- a name that is new in its unit: both -/
theorem j_name {u x : Nat} (h1 : cS N b n d i m) (hp : tzp b n i < n) (h5 : rS N b n (i + 1) w) (hN : rN N w) (hQ : rQ w Q DL nt na) (hW : qW Q) (hu : u < qn Q) (hx : x < 84) (hnm : ∀ a, a < 26 → gi m (d + 10) (26 * u + a) = zopt (qnm Q u a)) :
    (∃ f p m' v w', fX1_readName N 2 (zN u) (zN x) m = some (zN 0, m') ∧ cX f p m' ∧ cO d m m' ∧ fX9_freshName N 85 (zN u) w = some (v, w') ∧ rX f p w' ∧ rO w w')
    ∨ (∃ a m' w', a < 26 ∧ qnm Q u a = none ∧ fX1_readName N 2 (zN u) (zN x) m = some (zN 1, m') ∧ cS N b n d (i + 2) m' ∧ gi m' (d + 5) x = zN a ∧ gi m' (d + 10) (26 * u + a) = zN x ∧ (∀ z k, ¬ (z = 2 ∧ k = 10) → ¬ (z = d + 5 ∧ k = x) → ¬ (z = d + 10 ∧ k = 26 * u + a) → gi m' z k = gi m z k) ∧ (∀ z k, gr m' z k = gr m z k) ∧ (∀ z k, gl m' z k = gl m z k)
      ∧ fX9_freshName N 85 (zN u) w = some (zN a, w') ∧ rS N b n (i + 2) w' ∧ rF w w') := by
  have hd := h1.1.1
  have hb := h1.2.2.2.1
  have hn7 := hW.1
  obtain ⟨-, ⟨-, -, -, -, n5, -, -, -, -, n10, -⟩, -, ⟨-, -, -, -, g5, -, -, -, -, g10, -⟩, g0, -⟩ := id h1.1
  have hS1 := cS_s h1 hp
  have hF1 : cF m (si m 2 10 (zN (i + 1))) := cF_si (cF_rf m) (by omega)
  obtain ⟨w0, a1, a2, a3, a4⟩ := r_here h5
  have ec : fX1_readName N 2 (zN u) (zN x) m = (xgr (si m 2 10 (zN (i + 1))) 2 7 fun u4 => xv (gi (si m 2 10 (zN (i + 1))) 2 10) fun v5 => xald N (si m 2 10 (zN (i + 1))) u4 v5 fun v6 => if (v6 : Int32) = zN 258 then (xgr (si m 2 10 (zN (i + 1))) 2 9 fun u7 => xv (gi (si m 2 10 (zN (i + 1))) 2 10) fun v8 => xald N (si m 2 10 (zN (i + 1))) u7 v8 fun v9 => xgr (si m 2 10 (zN (i + 1))) 2 0 fun u10 => xgr (si m 2 10 (zN (i + 1))) u10 10 fun u11 => xald N (si m 2 10 (zN (i + 1))) u11 (zN u * zN 26 + v9) fun v14 => if (v14 : Int32) = zM then (xast N (si (si m 2 10 (zN (i + 1))) 2 10 (zN (i + 1 + 1))) (d + 5) (zN x) v9 fun m20 => xast N m20 (d + 10) (zN u * zN 26 + v9) (zN x) fun m25 => some (zN 1, m25)) else (xca (fX1_refuse N 2 (zN 4) (si m 2 10 (zN (i + 1)))) fun v27 m26 => xnb v27 (some (v27, m26)))) else (xca (fX1_refuse N 2 (zN 1) (si m 2 10 (zN (i + 1)))) fun v29 m28 => xnb v29 (some (v29, m28)))) := by
    unfold fX1_readName
    simp only [zv, h1.2.2.2.2.2.2, zN_lit, zN_add, zneg, gi_si, zgr_si, zgr g0, zgr g5, zgr g10]
    congr 1
    funext u4
    congr 1
    funext v6
    congr 1
    congr 1
    funext u7
    congr 1
    funext v9
    congr 1
    funext v14
    congr 1
    unfold xast
    split
    · simp only [zgr_si, zgr g0, zgr g10]
    · rfl
  rw [ec, cs_k hS1]
  unfold fX9_freshName
  rw [r_fine h5]
  simp only [zca, zN_lit, zN10, if_false, a1]
  by_cases hk : tzk b n (tzp b n (i + 1)) = 258
  · have q1 := tz_nE hk (by omega)
    have ip := tzp_s q1
    obtain ⟨s1, s2, s3, s4, s5, s6⟩ := tz_sm hb hk
    obtain ⟨w1, b1, b2, b3⟩ := r_nam_y a2 hk
    have ha : tzq b n (tzp b n (i + 1)) < 26 := by omega
    have hF01 : rF w w1 := rF_tr a4 b3
    have hQ1 : rQ w1 Q DL nt na := by
      have e : gi w1 89 = gi w 89 := funext fun k => hF01.1 _ _ (by omega)
      unfold rQ at hQ ⊢
      rw [e]; exact hQ
    have hN1 := rN_g hN hF01.2.1
    have hnmx : ∀ c, qnm Q u (tzq b n (tzp b n (i + 1))) = some c → c < 2147483648 := fun c hc => by
      have := (qid_lt hW ((hW.2.2.2.2.1 u _ c ha).1 hc).1).2.2
      omega
    rw [hk, if_pos rfl, cs_n hS1 (by omega)]
    generalize hav : tzq b n (tzp b n (i + 1)) = a at *
    simp only [zv, a3, b1, zca, r_fine b2, zN10, if_false, zgr_si, zgr g0, zgr g10, zgr hN1.2, zN_mul, zN_add]
    rw [r_nmd hN1 hQ1 hW hu ha, zca, zald (by omega) (by omega), gi_ne (by omega), show u * 26 + a = 26 * u + a by omega, hnm a ha]
    simp only [zneg, zopt_m hnmx, zopt_m (o := (qnm Q u a).map (qid Q)) (fun c hc => by
      cases h : qnm Q u a with
      | none => rw [h] at hc; simp at hc
      | some x0 =>
        rw [h] at hc
        have : qid Q x0 = c := by simpa using hc
        have := (qid_lt hW ((hW.2.2.2.2.1 u a x0 ha).1 h).1).2.1
        omega)]
    by_cases hnn : qnm Q u a = none
    · rw [hnn]
      simp only [Option.map_none, if_true]
      have hS2 := cS_s hS1 q1
      refine Or.inr ⟨a, _, w1, ha, hnn, by rw [zast (by omega) (by omega), zast (by omega) (by omega)], cS_g (m' := si (si (si (si m 2 10 (zN (i + 1))) 2 10 (zN (i + 1 + 1))) (d + 5) x (zN a)) (d + 10) (26 * u + a) (zN x)) hS2 (fun _ _ => rfl) (fun z k q => by rw [gi_ne (by omega), gi_ne (by omega)]) (by rw [gi_ne (by omega), gi_ne (by omega), gi_si]) hS2.2.2.2.2.2.1, by rw [gi_ne (by omega), gi_si], gi_si _ _ _ _, fun z k r1 r2 r3 => by rw [gi_ne (by omega), gi_ne (by omega), gi_ne (by omega), gi_ne (by omega)], fun _ _ => rfl, fun _ _ => rfl, rfl, b2, hF01⟩
    · have hne : ¬ ((qnm Q u a).map (qid Q) = none) := fun q => by
        cases h : qnm Q u a with
        | none => exact hnn h
        | some x0 => rw [h] at q; simp at q
      rw [if_neg hnn, if_neg hne]
      obtain ⟨m2, c1, c2, c3⟩ := c_ref (f := 4) hS1 (by omega) (by omega)
      obtain ⟨w2, d1, d2, d3⟩ := r_wrong (N := N) (f := 4) (p := tzp b n (i + 1)) b2.2.1 (by omega) (by omega)
      refine Or.inl ⟨4, tzp b n (i + 1), m2, zN a, w2, ?_, c2, cF_O (cF_tr hF1 c3), ?_, d2, rE_O (rE_tr (rF_E hF01) d3)⟩
      · rw [c1, zca, znbN0]
      · rw [d1, zca]
  · obtain ⟨m2, c1, c2, c3⟩ := c_ref (f := 1) hS1 (by omega) (by omega)
    obtain ⟨w1, b1, b2, b3⟩ := r_nam_n a2 hk
    refine Or.inl ⟨1, tzp b n (i + 1), m2, zN 0, w1, ?_, c2, cF_O (cF_tr hF1 c3), ?_, b2, rE_O (rE_tr (rF_E a4) b3)⟩
    · rw [if_neg (by rw [zK (tzk_lt hb _) (by omega)]; exact hk), c1, zca, znbN0]
    · simp only [zv, b1, zca, r_dead b2, if_true]
end TS
