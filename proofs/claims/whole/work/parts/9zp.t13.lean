/-! ===== t: deeds of both ===== -/
abbrev pD : Type := List pK × Option (Nat × Nat)
/-- frame of a deed -/
def cD (d nc nd x : Nat) (m m' : XM) : Prop := (∀ a k, ¬ (a = 2 ∧ 10 ≤ k) → ¬ (a = d + 12 ∧ (k = 0 ∨ k = 3)) → ¬ ((a = d + 13 ∨ a = d + 14 ∨ a = 22) ∧ nc ≤ k) → ¬ ((a = 23 ∨ a = d + 15 ∨ a = d + 16 ∨ a = d + 17) ∧ nd ≤ k) → ¬ (a = d + 7 ∧ k = x) → gi m' a k = gi m a k) ∧ (∀ a k, gr m' a k = gr m a k) ∧ ∀ a k, gl m' a k = gl m a k
def rD (nt na : Nat) (m m' : XM) : Prop := (∀ a k, ¬ (a = 85 ∧ (k = 4 ∨ k = 6 ∨ k = 7 ∨ k = 17)) → ¬ (a = 89 ∧ (k = 2 ∨ k = 3 ∨ 1410 + 6 * nt ≤ k ∧ k < 3810 ∨ 530 + 4 * na ≤ k ∧ k < 1410)) → gi m' a k = gi m a k) ∧ (∀ a k, gr m' a k = gr m a k) ∧ ∀ a k, gl m' a k = gl m a k
section TO
variable {N : Nat → Nat} {b : Nat → Nat} {n d i nc nt nd na x : Nat} {m m1 m2 w w1 w2 : XM}
theorem cD_O (h : cD d nc nd x m m1) : cO d m m1 := ⟨fun a k q1 q2 q3 => h.1 a k q1 (by omega) (by omega) (by omega) (by omega), h.2⟩
theorem cT_D (h : cT d nc m m1) : cD d nc nd x m m1 := ⟨fun a k q1 q2 q3 _ _ => h.1 a k q1 (by omega) q3, h.2⟩
theorem cF_D (h : cF m m1) : cD d nc nd x m m1 := ⟨fun a k q1 _ _ _ _ => h.1 a k q1, h.2⟩
theorem cD_tr {nc1 nd1 : Nat} (h : cD d nc nd x m m1) (g : cD d nc1 nd1 x m1 m2) (hn : nc ≤ nc1) (hd : nd ≤ nd1) : cD d nc nd x m m2 := ⟨fun a k q1 q2 q3 q4 q5 => (g.1 a k q1 q2 (by omega) (by omega) q5).trans (h.1 a k q1 q2 q3 q4 q5), fun a k => (g.2.1 a k).trans (h.2.1 a k), fun a k => (g.2.2 a k).trans (h.2.2 a k)⟩
theorem cD_si {a k : Nat} {v : Int32} (h : cD d nc nd x m m1) (ha : (a = 2 ∧ 10 ≤ k) ∨ (a = d + 12 ∧ (k = 0 ∨ k = 3)) ∨ ((a = 23 ∨ a = d + 15 ∨ a = d + 16 ∨ a = d + 17) ∧ nd ≤ k) ∨ (a = d + 7 ∧ k = x)) : cD d nc nd x m (si m1 a k v) := cD_tr h ⟨fun z j q1 q2 q3 q4 q5 => gi_ne (by omega), fun _ _ => rfl, fun _ _ => rfl⟩ (Nat.le_refl _) (Nat.le_refl _)
theorem cD_rf : cD d nc nd x m m := ⟨fun _ _ _ _ _ _ _ => rfl, fun _ _ => rfl, fun _ _ => rfl⟩
theorem rT_D (h : rT nt 3 m m1) : rD nt na m m1 := ⟨fun a k q1 q2 => h.1 a k q1 (by omega), h.2⟩
theorem rE_D (h : rE m m1) : rD nt na m m1 := ⟨fun a k q1 _ => h.1 a k q1, h.2⟩
theorem rD_O (h : rD nt na m m1) : rO m m1 := ⟨fun a k q1 q2 => h.1 a k q1 (by omega), h.2⟩
theorem rD_tr {nt1 na1 : Nat} (h : rD nt na m m1) (g : rD nt1 na1 m1 m2) (hn : nt ≤ nt1) (hd : na ≤ na1) : rD nt na m m2 := ⟨fun a k q1 q2 => (g.1 a k q1 (by omega)).trans (h.1 a k q1 q2), fun a k => (g.2.1 a k).trans (h.2.1 a k), fun a k => (g.2.2 a k).trans (h.2.2 a k)⟩
/-- a sum up to its sign: both -/
theorem d_core (h1 : cS N b n d i m) (h3 : gi m (d + 12) 0 = zN nc) (h4 : nc ≤ tzp b n i) (hnd : nd < 300) (h5 : rS N b n i w) (h6 : rN N w) (h8 : gi w 89 3 = zN nt) (hnt : 2 * nt ≤ tzp b n i) :
    (∃ f p m' v w1 w2, fX1_readDeed_128 N 2 (d + 12) (zN nd) m = some (zN 0, m') ∧ cX f p m' ∧ cO d m m' ∧ fX9_sum N 85 w = some (v, w1) ∧ fX9_must N 85 (zN 59) w1 = some w2 ∧ rX f p w2 ∧ rO w w2)
    ∨ (∃ m' w1 w2 i' k l, fX1_readDeed_128 N 2 (d + 12) (zN nd) m = some (zN 1, m') ∧ cS N b n d i' m' ∧ gi m' (d + 12) 0 = zN (nc + l.length) ∧ pcod m' d nc l ∧ gi m' (d + 15) nd = zN nc ∧ gi m' (d + 16) nd = zN (nc + l.length) ∧ cD d nc nd x m m' ∧ (∀ k, k ≠ nd → gi m' (d + 15) k = gi m (d + 15) k ∧ gi m' (d + 16) k = gi m (d + 16) k) ∧ (∀ k, gi m' (d + 17) k = gi m (d + 17) k ∧ gi m' 23 k = gi m 23 k ∧ gi m' (d + 7) k = gi m (d + 7) k) ∧ gi m' (d + 12) 3 = gi m (d + 12) 3 ∧ tzp b n i + l.length + 1 ≤ tzp b n i' ∧ tzp b n i + 2 ≤ tzp b n i'
      ∧ fX9_sum N 85 w = some (zN nt, w1) ∧ fX9_must N 85 (zN 59) w1 = some w2 ∧ rS N b n i' w2 ∧ gi w2 89 3 = zN (nt + k) ∧ 2 * (nt + k) ≤ tzp b n i' ∧ rT nt 3 w w2 ∧ pfl (gi w2 89) nt (nt + k) l ∧ pso (tzp b n i) l (tzp b n i') ∧ pcw l 0 1 ∧ pSm (gi w2 89) (pTm (gi w2 89) (nt + k) 9) nt l) := by
  have hd := h1.1.1
  have hii := cS_i h1
  obtain ⟨-, ⟨-, -, -, -, -, -, -, -, -, -, -, -, -, n15, n16, n17⟩, -, ⟨-, -, -, -, -, -, -, -, -, -, -, g13, s1, s2, s4, s5, s6⟩, -⟩ := id h1.1
  generalize hmA : si (si m (d + 15) nd (zN nc)) 2 11 (zN 0) = mA
  have hFA : ∀ a k, ¬ (a = d + 15 ∧ k = nd) → ¬ (a = 2 ∧ k = 11) → gi mA a k = gi m a k := fun a k q1 q2 => by rw [← hmA, gi_ne (by omega), gi_ne (by omega)]
  have hgA : ∀ a k, gr mA a k = gr m a k := fun a k => by rw [← hmA]; rfl
  have hlA : ∀ a k, gl mA a k = gl m a k := fun a k => by rw [← hmA]; rfl
  have hSA : cS N b n d i mA := cS_g h1 hgA (fun a k q => hFA a k (by omega) (by omega)) (by rw [hFA _ _ (by omega) (by omega)]; exact h1.2.2.2.2.2.2) h1.2.2.2.2.2.1
  have hcA : gi mA (d + 12) 0 = zN nc := by rw [hFA _ _ (by omega) (by omega)]; exact h3
  generalize hwA : si w 85 17 (zN 0) = wA
  have hEA : rE w wA := by rw [← hwA]; exact rE_si (rE_rf w) (by omega)
  have hSwA : rS N b n i wA := by rw [← hwA]; exact rS_w (w' := si w 85 17 (zN 0)) h5 (fun _ _ => rfl) (fun k hk => gi_ne (by omega)) (fun k => gi_ne (by omega))
  have ec : fX1_readDeed_128 N 2 (d + 12) (zN nd) m = (xca (gX1_readTerms N 40 0 2 mA) fun v6 m5 => xgr m5 (d + 12) 5 fun u7 => xast N m5 u7 (zN nd) (gi m5 (d + 12) 0) fun m9 => if (v6 : Int32) = zN 0 then some (zN 0, m9) else (xca (fX1_mustTake N 2 (zN 59) m9) fun v11 m10 => if (v11 : Int32) = zN 0 then some (zN 0, m10) else (some (zN 1, m10)))) := by
    unfold fX1_readDeed_128 fX1_readDeed_179
    simp (disch := omega) only [zgr s4, zv, h3, zast, zN_lit]
    rw [hmA]
  have er : fX9_sum N 85 w = gX9_term N 40 1 85 (zN 0) wA := by
    unfold fX9_sum
    simp only [zv, zN_lit]
    rw [hwA]
    cases gX9_term N 40 1 85 (zN 0) wA with
    | none => rfl
    | some z => rfl
  rw [ec, er]
  rcases (q_all (N := N) (b := b) (n := n) (d := d) 8).2.1 40 40 0 i nc nt mA wA (by omega) (by omega) (by omega) ⟨hSA, by rw [← hmA, gi_si], hcA, h4, hSwA, rN_g h6 hEA.2.1, by rw [← hwA, gi_si], by rw [hEA.1 _ _ (by omega)]; exact h8⟩ (by omega) with ⟨f, p, m3, v, w3, k1, k2, k3, k4, k5, k6⟩ | ⟨m3, w3, i1, k, l, k1, k2, ⟨e1, e2, e3, e4, e5, e6, e7, e8, e9, e10, e11, e12, e13⟩, k3, k4, k5, k6⟩
  · have hg5 : gr m3 (d + 12) 5 = some (d + 16) := by rw [k3.2.1, hgA]; exact s5
    refine Or.inl ⟨f, p, si m3 (d + 16) nd (gi m3 (d + 12) 0), v, w3, w3, ?_, ⟨by rw [gi_ne (by omega)]; exact k2.1, by rw [gi_ne (by omega)]; exact k2.2.1, k2.2.2⟩, ?_, k4, r_mu_d k5 _, k5, rO_tr (rE_O hEA) k6⟩
    · rw [k1, zca, zgr hg5, zast (by omega) (by omega), if_pos rfl]
    · refine cO_tr (m1 := mA) ⟨fun a j q1 q2 q3 => hFA a j (by omega) (by omega), hgA, hlA⟩ (cO_tr k3 ⟨fun a j q1 q2 q3 => gi_ne (by omega), fun _ _ => rfl, fun _ _ => rfl⟩)
  · have hg5 : gr m3 (d + 12) 5 = some (d + 16) := by rw [e5.2.1, hgA]; exact s5
    rw [k1, zca, zgr hg5, zast (by omega) (by omega), if_neg (by rw [zN10]; exact id), e3]
    generalize hm4 : si m3 (d + 16) nd (zN (nc + l.length)) = m4
    have hF4 : ∀ a k, ¬ (a = d + 16 ∧ k = nd) → gi m4 a k = gi m3 a k := fun a k q1 => by rw [← hm4, gi_ne (by omega)]
    have hg4 : ∀ a k, gr m4 a k = gr m3 a k := fun a k => by rw [← hm4]; rfl
    have hl4 : ∀ a k, gl m4 a k = gl m3 a k := fun a k => by rw [← hm4]; rfl
    have hS4 : cS N b n d i1 m4 := cS_g e1 hg4 (fun a k q => hF4 a k (by omega)) (by rw [hF4 _ _ (by omega)]; exact e1.2.2.2.2.2.2) e1.2.2.2.2.2.1
    have hall : ∀ a k, ¬ (a = 2 ∧ 10 ≤ k) → ¬ (a = d + 12 ∧ k = 0) → ¬ ((a = d + 13 ∨ a = d + 14 ∨ a = 22) ∧ nc ≤ k) → ¬ (a = d + 15 ∧ k = nd) → ¬ (a = d + 16 ∧ k = nd) → gi m4 a k = gi m a k := fun a k q1 q2 q3 q4 q5 => by rw [hF4 _ _ q5, e5.1 _ _ q1 q2 q3, hFA _ _ q4 (by omega)]
    have hi1 := cS_i e1
    by_cases q : tzk b n (tzp b n i1) = 59
    · have q1 := tz_nE q (by omega)
      have ip := tzp_s q1
      obtain ⟨w4, x1, x2, x3⟩ := r_mu_y (c := 59) e8 (by omega) q
      have h89 : gi w4 89 = gi w3 89 := funext fun j => x3.1 _ _ (by omega)
      refine Or.inr ⟨si m4 2 10 (zN (i1 + 1)), w3, w4, i1 + 1, k, l, ?_, cS_s hS4 q1, ?_, ?_, ?_, ?_, ?_, fun j hj => ⟨?_, ?_⟩, fun j => ⟨?_, ?_, ?_⟩, ?_, by omega, by omega, k2, x1, x2, ?_, by omega, ?_, ?_, pso_wk _ (Nat.le_refl _) (by omega) e13, k5 0 (by omega), ?_⟩
      · rw [c_mu_y hS4 q, zca, if_neg (by rw [zN10]; exact id)]
      · rw [gi_ne (by omega), hF4 _ _ (by omega)]; exact e3
      · exact pcod_fr _ _ (fun a j q1 q2 q3 => by rw [gi_ne (by omega), hF4 _ _ (by omega)]) e4
      · rw [gi_ne (by omega), hF4 _ _ (by omega), e5.1 _ _ (by omega) (by omega) (by omega), ← hmA, gi_ne (by omega), gi_si]
      · rw [gi_ne (by omega), ← hm4, gi_si]
      · exact ⟨fun a j r1 r2 r3 r4 r5 => by rw [gi_ne (by omega), hall _ _ r1 (by omega) r3 (by omega) (by omega)], fun a j => by rw [gr_si, hg4, e5.2.1, hgA], fun a j => by rw [gl_si, hl4, e5.2.2, hlA]⟩
      · rw [gi_ne (by omega), hall _ _ (by omega) (by omega) (by omega) (by omega) (by omega)]
      · rw [gi_ne (by omega), hall _ _ (by omega) (by omega) (by omega) (by omega) (by omega)]
      · rw [gi_ne (by omega), hall _ _ (by omega) (by omega) (by omega) (by omega) (by omega)]
      · rw [gi_ne (by omega), hall _ _ (by omega) (by omega) (by omega) (by omega) (by omega)]
      · rw [gi_ne (by omega), hall _ _ (by omega) (by omega) (by omega) (by omega) (by omega)]
      · rw [gi_ne (by omega), hall _ _ (by omega) (by omega) (by omega) (by omega) (by omega)]
      · rw [x3.1 _ _ (by omega)]; exact e10
      · exact rT_tr (rE_T hEA) (rT_tr e11 (rE_T (nt := nt) (x := 3) (rF_E x3)) (Nat.le_refl _) (Or.inl rfl)) (Nat.le_refl _) (Or.inl rfl)
      · rw [h89]; exact e12
      · rw [h89]; exact k6 9 (by omega)
    · obtain ⟨m5, x1, x2, x3⟩ := c_mu_n hS4 (c := 59) (by omega) q
      obtain ⟨w4, y1, y2, y3⟩ := r_mu_n (c := 59) e8 (by omega) q
      refine Or.inl ⟨1, tzp b n i1, m5, zN nt, w3, w4, ?_, x2, ?_, k2, y1, y2, rO_tr (rE_O hEA) (rO_tr (rT_O e11) (rE_O y3))⟩
      · rw [x1, zca, if_pos rfl]
      · refine cO_tr (m1 := m4) ⟨fun a j r1 r2 r3 => hall _ _ r1 (by omega) (by omega) (by omega) (by omega), fun a j => by rw [hg4, e5.2.1, hgA], fun a j => by rw [hl4, e5.2.2, hlA]⟩ (cF_O x3)
end TO
