/-! ===== t: a deed of both ===== -/
section TQ
variable {N : Nat → Nat} {b : Nat → Nat} {n d i nt na nd x : Nat} {m w : XM} {DL : List pD} {a1 : Int32}
theorem d_pre (h1 : cS N b n d i m) (h3 : gi m (d + 12) 3 = zN nd) (hnd : nd < 300) (ha : a1 = zM ∨ a1 = zN x ∧ x < 84) (a2 : Int32) : ∃ mA, fX1_readDeed N 2 a1 a2 m = fX1_readDeed_67 N 2 a2 (d + 12) (zN nd) mA ∧ (∀ a k, ¬ (a = d + 12 ∧ k = 3) → ¬ (a = d + 7 ∧ k = x) → gi mA a k = gi m a k) ∧ (∀ a k, gr mA a k = gr m a k) ∧ (∀ a k, gl mA a k = gl m a k) ∧ gi mA (d + 12) 3 = zN (nd + 1) ∧ (a1 = zN x → x < 84 → gi m (d + 7) x = zM → gi mA (d + 7) x = zN nd) ∧ (¬ gi m (d + 7) x = zM → gi mA (d + 7) x = gi m (d + 7) x) := by
  have hd := h1.1.1
  obtain ⟨-, ⟨-, -, -, -, -, -, n7, -⟩, -, ⟨-, -, -, -, -, -, s7, -, -, -, -, g13, -⟩, g0, -⟩ := id h1.1
  have e : fX1_readDeed N 2 a1 a2 m = (if a1 = zM then (fX1_readDeed_67 N 2 a2 (d + 12) (zN nd) (si m (d + 12) 3 (zN (nd + 1)))) else (xgr (si m (d + 12) 3 (zN (nd + 1))) 2 0 fun u7 => xgr (si m (d + 12) 3 (zN (nd + 1))) u7 7 fun u8 => xald N (si m (d + 12) 3 (zN (nd + 1))) u8 a1 fun v9 => if (v9 : Int32) = zM then (xgr (si m (d + 12) 3 (zN (nd + 1))) 2 0 fun u10 => xgr (si m (d + 12) 3 (zN (nd + 1))) u10 7 fun u11 => xast N (si m (d + 12) 3 (zN (nd + 1))) u11 a1 (zN nd) fun m12 => fX1_readDeed_67 N 2 a2 (d + 12) (zN nd) m12) else (fX1_readDeed_67 N 2 a2 (d + 12) (zN nd) (si m (d + 12) 3 (zN (nd + 1)))))) := by
    unfold fX1_readDeed
    have h300 : nd < 300 := hnd
    simp (disch := omega) only [zgr g0, zgr g13, zv, h3, zN_lit, zN_lt, h300, if_true, zN_add, zneg]
  rcases ha with ha | ⟨ha, hx⟩
  · refine ⟨si m (d + 12) 3 (zN (nd + 1)), ?_, fun a k q1 q2 => gi_ne (by omega), fun _ _ => rfl, fun _ _ => rfl, gi_si _ _ _ _, fun q hx => ?_, fun _ => gi_ne (by omega)⟩
    · rw [e, if_pos ha]
    · rw [ha, zm_N (by omega)] at q; exact q.elim
  · have hne : ¬ a1 = zM := by rw [ha, zN_m (by omega)]; exact id
    rw [if_neg hne, zgr_si, zgr g0, zgr_si, zgr s7, ha, zald (by omega) (by omega), gi_ne (by omega)] at e
    by_cases q : gi m (d + 7) x = zM
    · rw [if_pos q, zgr_si, zgr g0, zgr_si, zgr s7, zast (by omega) (by omega)] at e
      exact ⟨si (si m (d + 12) 3 (zN (nd + 1))) (d + 7) x (zN nd), by rw [ha]; exact e, fun a k q1 q2 => by rw [gi_ne (by omega), gi_ne (by omega)], fun _ _ => rfl, fun _ _ => rfl, by rw [gi_ne (by omega), gi_si], fun _ _ _ => gi_si _ _ _ _, fun q' => absurd q q'⟩
    · rw [if_neg q] at e
      exact ⟨si m (d + 12) 3 (zN (nd + 1)), by rw [ha]; exact e, fun a k q1 q2 => gi_ne (by omega), fun _ _ => rfl, fun _ _ => rfl, gi_si _ _ _ _, fun _ _ q' => absurd q' q, fun _ => gi_ne (by omega)⟩
/-- how deed[x] comes out -/
def pdx (d nd x : Nat) (a1 : Int32) (m m' : XM) : Prop := (a1 = zN x → x < 84 → gi m (d + 7) x = zM → gi m' (d + 7) x = zN nd) ∧ (¬ gi m (d + 7) x = zM → gi m' (d + 7) x = gi m (d + 7) x)
theorem d_0 (h1 : cS N b n d i m) (hJ : jD N b n d i DL nt na m w) (h5 : rS N b n i w) (ha : a1 = zM ∨ a1 = zN x ∧ x < 84) (hl : 3 * DL.length ≤ 600) (hna : na ≤ 220) :
    (∃ f p m' v w1 w2, fX1_readDeed N 2 a1 (zN 0) m = some (zN 0, m') ∧ cX f p m' ∧ cO d m m' ∧ fX9_sum N 85 w = some (v, w1) ∧ fX9_must N 85 (zN 59) w1 = some w2 ∧ rX f p w2 ∧ rO w w2)
    ∨ (∃ m' w1 w2 i' k l, fX1_readDeed N 2 a1 (zN 0) m = some (zN 1, m') ∧ cS N b n d i' m' ∧ jD N b n d i' (DL ++ [(l, none)]) (nt + k) na m' w2 ∧ cD d (plen DL) DL.length x m m' ∧ pdx d DL.length x a1 m m' ∧ tzp b n i + 2 ≤ tzp b n i'
      ∧ fX9_sum N 85 w = some (zN nt, w1) ∧ fX9_must N 85 (zN 59) w1 = some w2 ∧ rS N b n i' w2 ∧ rT nt 3 w w2 ∧ pSm (gi w2 89) (pTm (gi w2 89) (nt + k) 9) nt l) := by
  have hd := h1.1.1
  have hii := cS_i h1
  obtain ⟨⟨j1, j2, j3, j4⟩, ⟨j5, j6, j7, j8, j9, j10⟩, j11, j12⟩ := id hJ
  obtain ⟨mA, a2, a3, a4, a5, a6, a7, a8⟩ := d_pre h1 j1 (by omega) ha (zN 0)
  obtain ⟨-, ⟨-, -, -, -, -, -, -, -, -, -, -, -, -, n15, n16, n17⟩, ⟨-, -, n23⟩, ⟨-, -, -, -, -, -, -, -, -, -, -, g13, s1, s2, s4, s5, s6⟩, g0, g1', g2', g3'⟩ := id h1.1
  have hSA : cS N b n d i mA := cS_g h1 a4 (fun a k q => a3 a k (by omega) (by omega)) (by rw [a3 _ _ (by omega) (by omega)]; exact h1.2.2.2.2.2.2) h1.2.2.2.2.2.1
  generalize hmB : si (si mA 23 DL.length (zN (tzp b n i))) (d + 17) DL.length zM = mB
  have hFB : ∀ a k, ¬ (a = 23 ∧ k = DL.length) → ¬ (a = d + 17 ∧ k = DL.length) → gi mB a k = gi mA a k := fun a k q1 q2 => by rw [← hmB, gi_ne (by omega), gi_ne (by omega)]
  have hgB : ∀ a k, gr mB a k = gr mA a k := fun a k => by rw [← hmB]; rfl
  have hlB : ∀ a k, gl mB a k = gl mA a k := fun a k => by rw [← hmB]; rfl
  have hSB : cS N b n d i mB := cS_g hSA hgB (fun a k q => hFB a k (by omega) (by omega)) (by rw [hFB _ _ (by omega) (by omega)]; exact hSA.2.2.2.2.2.2) h1.2.2.2.2.2.1
  have e67 : fX1_readDeed_67 N 2 (zN 0) (d + 12) (zN DL.length) mA = fX1_readDeed_128 N 2 (d + 12) (zN DL.length) mB := by
    unfold fX1_readDeed_67
    rw [zgr (u := 23) (by rw [a4]; exact g3'), cs_p hSA, zast (by omega) (by omega), zgr_si, zgr (u := d + 17) (by rw [a4]; exact s6)]
    simp only [zN_lit, if_true]
    unfold fX1_readDeed_101
    rw [zast (by omega) (by omega)]
    simp only [zN_lit, if_true, zneg]
    rw [hmB]
  have hcB : cD d (plen DL) DL.length x m mB := ⟨fun a k q1 q2 q3 q4 q5 => by rw [hFB _ _ (by omega) (by omega), a3 _ _ (by omega) (by omega)], fun a k => by rw [hgB, a4], fun a k => by rw [hlB, a5]⟩
  rw [a2, e67]
  rcases d_core (x := x) (nd := DL.length) hSB (nc := plen DL) (by rw [hFB _ _ (by omega) (by omega), a3 _ _ (by omega) (by omega)]; exact j2) j4 (by omega) h5 j5 j6 j8 with ⟨f, p, m', v, w1, w2, k1, k2, k3, k4, k5, k6, k7⟩ | ⟨m', w1, w2, i', k, l, k1, k2, k3, k4, k5, k6, k7, k8, k9, k10, k11, k12, k13, k14, k15, k16, k17, k18, k19, k20, k21, k22⟩
  · exact Or.inl ⟨f, p, m', v, w1, w2, k1, k2, cO_tr (cD_O hcB) k3, k4, k5, k6, k7⟩
  · have hcD : cD d (plen DL) DL.length x m m' := cD_tr hcB k7 (Nat.le_refl _) (Nat.le_refl _)
    have h7B : gi mB (d + 7) x = gi mA (d + 7) x := hFB _ _ (by omega) (by omega)
    refine Or.inr ⟨m', w1, w2, i', k, l, k1, k2, ?_, hcD, ⟨fun q1 q2 q3 => ?_, fun q => ?_⟩, k12, k13, k14, k15, k18, k22⟩
    · exact jD_nw (D := (l, none)) (x := x) hd hJ (by omega) (by rw [k10, hFB _ _ (by omega) (by omega)]; exact a6) k3 k4 k5 k6 (show gi m' (d + 17) DL.length = zM by rw [(k9 _).1, ← hmB, gi_si]) hcD (by show plen DL + l.length ≤ _; omega) k16 (by rw [k18.1 _ _ (by omega) (by omega)]; exact j7) k17 k19 (rT_D k18) (Nat.le_refl _) (fun a q1 q2 => by omega) (fun q e => by simp at e) hna (by omega) ⟨fun q e => by simp at e, tzp b n i', fun _ => k20, fun q e => by simp at e, Nat.le_refl _⟩ ⟨k21, fun q e => by simp at e⟩
    · rw [(k9 x).2.2, h7B]; exact a7 q1 q2 q3
    · rw [(k9 x).2.2, h7B]; exact a8 q
theorem d_do (h1 : cS N b n d i m) (hJ : jD N b n d i DL nt na m w) (h5 : rS N b n i w) (ha : a1 = zM ∨ a1 = zN x ∧ x < 84) (hl : 3 * DL.length ≤ 600) (hna : na < 220) :
    jF d m w (fX1_readDeed N 2 a1 (zN 0) m) (fX9_doHere N 85 w)
    ∨ (∃ m' w' i' k l, fX1_readDeed N 2 a1 (zN 0) m = some (zN 1, m') ∧ fX9_doHere N 85 w = some (zN na, w') ∧ cS N b n d i' m' ∧ jD N b n d i' (DL ++ [(l, none)]) (nt + k) (na + 1) m' w' ∧ cD d (plen DL) DL.length x m m' ∧ pdx d DL.length x a1 m m' ∧ tzp b n i + 2 ≤ tzp b n i' ∧ rS N b n i' w' ∧ rD nt na w w' ∧ pact (gi w' 89) (nt + k) na (l, none)) := by
  obtain ⟨w0, b1, b2, b3, b4⟩ := r_here h5
  have hJ0 : jD N b n d i DL nt na m w0 := jD_mo (m' := m) (w' := w0) hJ (Nat.le_refl _) (fun _ _ _ => rfl) (fun k => b4.1 _ _ (by omega)) b4.2.1
  unfold fX9_doHere
  rw [b1]
  simp only [zca, zv, b3, zN_lit]
  rcases d_0 (x := x) h1 hJ0 b2 ha hl (by omega) with ⟨f, p, m', v, w1, w2, k1, k2, k3, k4, k5, k6, k7⟩ | ⟨m', w1, w2, i', k, l, k1, k2, k3, k4, k5, k6, k7, k8, k9, k10, k11⟩
  · refine Or.inl ⟨f, p, m', zM, w2, k1, k2, k3, ?_, k6, rO_tr (rE_O (rF_E b4)) k7⟩
    rw [k4, zca, k5, zcv, r_dead k6, zca]
    simp only [if_true, zneg]
  · obtain ⟨⟨j1, j2, j3, j4⟩, ⟨j5, j6, j7, j8, j9, j10⟩, j11, j12⟩ := id k3
    have hnt := hJ0.2.1.2.2.2.1
    have hii := cS_i h1
    have hii' := cS_i k2
    obtain ⟨o1, o2, o3, o4, o5⟩ := racc_o (w := w2) (na := na) (u := zM) (a := zM) (f := zN nt) (p := zN (tzp b n i))
    have hr : ∀ z j, ¬ (z = 89 ∧ (j = 2 ∨ 530 + 4 * na ≤ j ∧ j < 530 + 4 * na + 4)) → gi (racc w2 na zM zM (zN nt) (zN (tzp b n i))) z j = gi w2 z j := fun z j q => racc_n q
    refine Or.inr ⟨m', racc w2 na zM zM (zN nt) (zN (tzp b n i)), i', k, l, k1, ?_, k2, ⟨⟨j1, j2, j3, j4⟩, ⟨rN_g j5 (fun _ _ => rfl), by rw [hr _ _ (by omega)]; exact j6, o5, j8, pfl_fr (fun t o q1 q2 q3 => hr _ _ (by omega)) j9, ?_⟩, j11, j12⟩, k4, k5, k6, racc_S k9, ?_, ⟨hna, ⟨nt, o3, pSm_fr (Nat.le_refl _) (fun j q1 q2 => hr _ _ (by omega)) k11⟩, fun _ => o1, fun q e => by simp at e⟩⟩
    · rw [k7, zca, k8, zcv, r_fine k9, zca]
      simp only [zN10, if_false, zneg]
      rw [r_act j5 j7 hna, zca]
    · refine ⟨fun a q1 q2 => ?_, fun D hD q hq => ?_⟩
      · by_cases e : a = na
        · rw [e] at q2; exact absurd o1 q2
        · have hk : ∀ o, o < 4 → gi (racc w2 na zM zM (zN nt) (zN (tzp b n i))) 89 (530 + 4 * a + o) = gi w2 89 (530 + 4 * a + o) := fun o ho => hr _ _ (by omega)
          obtain ⟨D, r1, q, r2, r3⟩ := j10.1 a (by omega) (by have := hk 0 (by omega); rw [Nat.add_zero] at this; rw [← this]; exact q2)
          exact ⟨D, r1, q, r2, pacT_fr hk r3⟩
      · obtain ⟨a, r1, r2⟩ := j10.2 D hD q hq
        exact ⟨a, by omega, pacT_fr (fun o ho => hr _ _ (by omega)) r2⟩
    · exact rD_tr (rE_D (rF_E b4)) (rD_tr (rT_D k10) (racc_D hna) (Nat.le_refl _) (Nat.le_refl _)) (Nat.le_refl _) (Nat.le_refl _)
theorem d_set (h1 : cS N b n d i m) (hJ : jD N b n d i DL nt na m w) (h5 : rS N b n i w) (hk : tzk b n (tzp b n i) = 257) (ha : a1 = zM ∨ a1 = zN x ∧ x < 84) (hl : 3 * DL.length ≤ 600) (hna : na < 220) :
    jF d m w (fX1_readDeed N 2 a1 (zN 1) m) (fX9_setHere N 85 w)
    ∨ (∃ m' w' i' k l q, fX1_readDeed N 2 a1 (zN 1) m = some (zN 1, m') ∧ fX9_setHere N 85 w = some (zN na, w') ∧ cS N b n d i' m' ∧ jD N b n d i' (DL ++ [(l, some q)]) (nt + k) (na + 1) m' w' ∧ cD d (plen DL) DL.length x m m' ∧ pdx d DL.length x a1 m m' ∧ tzp b n i + 6 ≤ tzp b n i' ∧ rS N b n i' w' ∧ rD nt na w w' ∧ pact (gi w' 89) (nt + k) na (l, some q)) := by
  have hd := h1.1.1
  have hii := cS_i h1
  obtain ⟨⟨j1, j2, j3, j4⟩, ⟨j5, j6, j7, j8, j9, j10⟩, j11, j12⟩ := id hJ
  obtain ⟨mA, a2, a3, a4, a5, a6, a7, a8⟩ := d_pre h1 j1 (by omega) ha (zN 1)
  obtain ⟨-, ⟨-, -, -, -, -, -, -, -, -, -, -, -, -, n15, n16, n17⟩, ⟨-, -, n23⟩, ⟨-, -, -, -, -, -, -, -, -, -, -, g13, s1, s2, s4, s5, s6⟩, g0, g1', g2', g3'⟩ := id h1.1
  have hSA : cS N b n d i mA := cS_g h1 a4 (fun a k q => a3 a k (by omega) (by omega)) (by rw [a3 _ _ (by omega) (by omega)]; exact h1.2.2.2.2.2.2) h1.2.2.2.2.2.1
  generalize hmB : si mA 23 DL.length (zN (tzp b n i)) = mB
  have hFB : ∀ a k, ¬ (a = 23 ∧ k = DL.length) → gi mB a k = gi mA a k := fun a k q1 => by rw [← hmB, gi_ne (by omega)]
  have hgB : ∀ a k, gr mB a k = gr mA a k := fun a k => by rw [← hmB]; rfl
  have hlB : ∀ a k, gl mB a k = gl mA a k := fun a k => by rw [← hmB]; rfl
  have hSB : cS N b n d i mB := cS_g hSA hgB (fun a k q => hFB a k (by omega)) (by rw [hFB _ _ (by omega)]; exact hSA.2.2.2.2.2.2) h1.2.2.2.2.2.1
  have e67 : fX1_readDeed_67 N 2 (zN 1) (d + 12) (zN DL.length) mA = (xca (fX1_readKey N 2 mB) fun v8 m7 => fX1_readDeed_101 N 2 (zN 1) (d + 12) (zN DL.length) (d + 17) (zN DL.length) v8 m7) := by
    unfold fX1_readDeed_67
    rw [zgr (u := 23) (by rw [a4]; exact g3'), cs_p hSA, zast (by omega) (by omega), zgr_si, zgr (u := d + 17) (by rw [a4]; exact s6)]
    simp only [zN_lit, zN10, if_false]
    rw [hmB]
  have hcB : cD d (plen DL) DL.length x m mB := ⟨fun a k q1 q2 q3 q4 q5 => by rw [hFB _ _ (by omega), a3 _ _ (by omega) (by omega)], fun a k => by rw [hgB, a4], fun a k => by rw [hlB, a5]⟩
  obtain ⟨w0, b1, b2, b3, b4⟩ := r_here h5
  rw [a2, e67]
  unfold fX9_setHere
  rw [b1]
  simp only [zca, zv, b3, zN_lit]
  have hp := tz_nE hk (by omega)
  rcases j_key hSB b2 hk with ⟨L, a, m7, x1, x2, x3, e1, e2, e3, e4, e5, e6, e7, e8, e9, e10, e11, e12⟩ | ⟨f, p, m7, L, x1, x2, v, x3, e1, e2, e3, e8, e9, e10, e11, e12⟩
  · rw [e1, e8]
    simp only [zca, e9, zcv, e10]
    generalize hm8 : si m7 (d + 17) DL.length (zN (26 * L + a)) = m8
    have hF8 : ∀ z k, ¬ (z = d + 17 ∧ k = DL.length) → gi m8 z k = gi m7 z k := fun z k q1 => by rw [← hm8, gi_ne (by omega)]
    have hg8 : ∀ z k, gr m8 z k = gr m7 z k := fun z k => by rw [← hm8]; rfl
    have hl8 : ∀ z k, gl m8 z k = gl m7 z k := fun z k => by rw [← hm8]; rfl
    have hS8 : cS N b n d (i + 3) m8 := cS_g e4 hg8 (fun z k q => hF8 z k (by omega)) (by rw [hF8 _ _ (by omega)]; exact e4.2.2.2.2.2.2) e4.2.2.2.2.2.1
    have e101 : fX1_readDeed_101 N 2 (zN 1) (d + 12) (zN DL.length) (d + 17) (zN DL.length) (zN (26 * L + a)) m7 = (xca (fX1_mustTake N 2 (zN 61) m8) fun v5 m4 => if (v5 : Int32) = zN 0 then (some (zN 0, m4)) else (fX1_readDeed_128 N 2 (d + 12) (zN DL.length) m4)) := by
      have hnm : ¬ zN (26 * L + a) = zM := by rw [zN_m (by omega)]; exact id
      unfold fX1_readDeed_101
      rw [zast (by omega) (by omega), hm8]
      simp only [zN_lit, zN10, if_false, zneg]
      rw [zgr (u := d + 17) (by rw [hg8, e5.2.1, hgB, a4]; exact s6), zald (by omega) (by omega)]
      have : gi m8 (d + 17) DL.length = zN (26 * L + a) := by rw [← hm8, gi_si]
      rw [this, if_neg hnm]
    rw [e101]
    have hc8 : cD d (plen DL) DL.length x m m8 := ⟨fun z k q1 q2 q3 q4 q5 => by rw [hF8 _ _ (by omega), e5.1 _ _ (by omega), hcB.1 _ _ q1 q2 q3 q4 q5], fun z k => by rw [hg8, e5.2.1, hcB.2.1], fun z k => by rw [hl8, e5.2.2, hcB.2.2]⟩
    have hE3 : rE w x3 := rF_E (rF_tr b4 e12)
    by_cases q : tzk b n (tzp b n (i + 3)) = 61
    · have q1 := tz_nE q (by omega)
      have ip := tzp_s q1
      obtain ⟨x4, y1, y2, y3⟩ := r_mu_y (c := 61) e11 (by omega) q
      have hS9 := cS_s hS8 q1
      have hE4 : rE w x4 := rE_tr hE3 (rF_E y3)
      rw [c_mu_y hS8 q, zca, if_neg (by rw [zN10]; exact id), y1]
      simp only [zcv]
      have hi9 := cS_i hS9
      rcases d_core (x := x) (nd := DL.length) hS9 (nc := plen DL) (by rw [gi_ne (by omega), hF8 _ _ (by omega), e5.1 _ _ (by omega), hFB _ _ (by omega), a3 _ _ (by omega) (by omega)]; exact j2) (by omega) (by omega) y2 (rN_g j5 hE4.2.1) (by rw [hE4.1 _ _ (by omega)]; exact j6) (by omega) with ⟨f, p, m', v, w1, w2, k1, k2, k3, k4, k5, k6, k7⟩ | ⟨m', w1, w2, i', k, l, k1, k2, k3, k4, k5, k6, k7, k8, k9, k10, k11, k12, k13, k14, k15, k16, k17, k18, k19, k20, k21, k22⟩
      · refine Or.inl ⟨f, p, m', zM, w2, k1, k2, cO_tr (cD_O hc8) (cO_tr (cF_O (cF_si (cF_rf _) (by omega))) k3), ?_, k6, rO_tr (rE_O hE4) k7⟩
        rw [k4, zca, k5, zcv, r_dead k6, zca]
        simp only [if_true, zneg]
      · have hcD : cD d (plen DL) DL.length x m m' := cD_tr (cD_tr hc8 (cF_D (nc := plen DL) (nd := DL.length) (cF_si (cF_rf m8) (by omega))) (Nat.le_refl _) (Nat.le_refl _)) k7 (Nat.le_refl _) (Nat.le_refl _)
        have h7B : gi m' (d + 7) x = gi mA (d + 7) x := by rw [(k9 x).2.2, gi_ne (by omega), hF8 _ _ (by omega), e5.1 _ _ (by omega), hFB _ _ (by omega)]
        have hN2 : rN N w2 := rN_g (rN_g j5 hE4.2.1) k18.2.1
        have h22 : gi w2 89 2 = zN na := by rw [k18.1 _ _ (by omega) (by omega), hE4.1 _ _ (by omega)]; exact j7
        obtain ⟨o1, o2, o3, o4, o5⟩ := racc_o (w := w2) (na := na) (u := zN L) (a := zN a) (f := zN nt) (p := zN (tzp b n i))
        have hr : ∀ z j, ¬ (z = 89 ∧ (j = 2 ∨ 530 + 4 * na ≤ j ∧ j < 530 + 4 * na + 4)) → gi (racc w2 na (zN L) (zN a) (zN nt) (zN (tzp b n i))) z j = gi w2 z j := fun z j q => racc_n q
        have hD2 : rD nt na w (racc w2 na (zN L) (zN a) (zN nt) (zN (tzp b n i))) := rD_tr (rE_D hE4) (rD_tr (rT_D k18) (racc_D hna) (Nat.le_refl _) (Nat.le_refl _)) (Nat.le_refl _) (Nat.le_refl _)
        have hpa : pacT (gi (racc w2 na (zN L) (zN a) (zN nt) (zN (tzp b n i))) 89) na (26 * L + a, tzp b n i) := ⟨by rw [o1]; congr 1; show L = (26 * L + a) / 26; omega, by rw [o2]; congr 1; show a = (26 * L + a) % 26; omega, o4, by show 26 * L + a < 182; omega⟩
        refine Or.inr ⟨m', racc w2 na (zN L) (zN a) (zN nt) (zN (tzp b n i)), i', k, l, (26 * L + a, tzp b n i), k1, ?_, k2, ?_, hcD, ⟨fun q1 q2 q3 => by rw [h7B]; exact a7 q1 q2 q3, fun q => by rw [h7B]; exact a8 q⟩, by omega, racc_S k15, hD2, ⟨hna, ⟨nt, o3, pSm_fr (Nat.le_refl _) (fun j q1 q2 => hr _ _ (by omega)) k22⟩, fun e => by simp at e, fun q e => ?_⟩⟩
        · rw [k13, zca, k14, zcv, r_fine k15, zca]
          simp only [zN10, if_false]
          rw [r_act hN2 h22 hna, zca]
        · refine jD_nw (D := (l, some (26 * L + a, tzp b n i))) (x := x) hd hJ (by omega) (by rw [k10, gi_ne (by omega), hF8 _ _ (by omega), e5.1 _ _ (by omega), hFB _ _ (by omega)]; exact a6) k3 k4 k5 k6 ⟨?_, ?_⟩ hcD (by show plen DL + l.length ≤ _; omega) (by rw [hr _ _ (by omega)]; exact k16) o5 k17 (pfl_fr (fun t o q1 q2 q3 => hr _ _ (by omega)) k19) hD2 (by omega) (fun z q1 q2 _ => ⟨(26 * L + a, tzp b n i), rfl, by rw [show z = na by omega]; exact hpa⟩) (fun q e => ⟨na, by omega, ?_⟩) (by omega) (by omega) ⟨fun q e => ?_, tzp b n i', fun e => by simp at e, fun q e => ?_, Nat.le_refl _⟩ ⟨k21, fun q e => ?_⟩
          · rw [(k9 _).1, gi_ne (by omega), ← hm8, gi_si]
          · rw [(k9 _).2.1, gi_ne (by omega), hF8 _ _ (by omega), e5.1 _ _ (by omega), ← hmB, gi_si]
          · have e' : (26 * L + a, tzp b n i) = q := by simpa using e
            rw [← e']; exact hpa
          · have e' : (26 * L + a, tzp b n i) = q := by simpa using e
            rw [← e']; exact Nat.le_refl _
          · have e' : (26 * L + a, tzp b n i) = q := by simpa using e
            rw [← e']
            exact pso_wk _ (by show tzp b n i + 1 ≤ _; omega) (Nat.le_refl _) k20
          · have e' : (26 * L + a, tzp b n i) = q := by simpa using e
            rw [← e']; show 26 * L + a < 182; omega
        · have e' : (26 * L + a, tzp b n i) = q := by simpa using e
          rw [← e']; exact hpa
    · obtain ⟨m9, z1, z2, z3⟩ := c_mu_n hS8 (c := 61) (by omega) q
      obtain ⟨x4, y1, y2, y3⟩ := r_mu_n (c := 61) e11 (by omega) q
      obtain ⟨v, x5, u1, u2, u3⟩ := r_sum_d (N := N) y2
      refine Or.inl ⟨1, tzp b n (i + 3), m9, zM, x5, ?_, z2, cO_tr (cD_O hc8) (cF_O z3), ?_, u2, rE_O (rE_tr hE3 (rE_tr y3 u3))⟩
      · rw [z1, zca, if_pos rfl]
      · rw [y1, zcv, u1, zca, r_mu_d u2, zcv, r_dead u2, zca]
        simp only [if_true, zneg]
  · obtain ⟨v', x5, u1, u2, u3⟩ := r_sum_d (N := N) e11
    rw [e1, e8]
    simp only [zca, e9, zcv, e10, r_mu_d e11, u1, r_mu_d u2, r_dead u2, if_true, zneg]
    refine Or.inl ⟨f, p, si m7 (d + 17) DL.length zM, zM, x5, ?_, ⟨by rw [gi_ne (by omega)]; exact e2.1, by rw [gi_ne (by omega)]; exact e2.2.1, e2.2.2⟩, ?_, rfl, u2, rE_O (rE_tr (rF_E b4) (rE_tr e12 u3))⟩
    · unfold fX1_readDeed_101
      rw [zast (by omega) (by omega)]
      simp only [zN_lit, zN10, if_false, zneg]
      rw [zgr_si, zgr (u := d + 17) (by rw [e3.2.1, hgB, a4]; exact s6), zald (by omega) (by omega), gi_si, if_pos rfl]
    · exact cO_tr (cO_tr (cD_O hcB) (cF_O e3)) ⟨fun z j q1 q2 q3 => gi_ne (by omega), fun _ _ => rfl, fun _ _ => rfl⟩
end TQ
