/-! ===== t: terms of both ===== -/
/-- a term is put behind the others -/
def radd (w : XM) (nt : Nat) (sg k a c p : Int32) : XM := si (si (si (si (si (si (si w 89 (1410 + 6 * nt) sg) 89 (1410 + 6 * nt + 1) k) 89 (1410 + 6 * nt + 2) a) 89 (1410 + 6 * nt + 3) c) 89 (1410 + 6 * nt + 4) zM) 89 (1410 + 6 * nt + 5) p) 89 3 (zN (nt + 1))
def rN (N : Nat → Nat) (w : XM) : Prop := N 89 = 3820 ∧ gr w 85 10 = some 89
section TJ
variable {N : Nat → Nat} {b : Nat → Nat} {n d i nc nt : Nat} {m w : XM}
theorem rN_g {w' : XM} (h : rN N w) (g : ∀ a k, gr w' a k = gr w a k) : rN N w' := ⟨h.1, by rw [g]; exact h.2⟩
theorem r_adds (h : rN N w) (h3 : gi w 89 3 = zN nt) (hn : nt < 400) (sg k a c p : Int32) : fX9_adds N 85 sg k a c p w = some (zN nt, radd w nt sg k a c p) := by
  obtain ⟨h1, h2⟩ := h
  unfold fX9_adds
  simp (disch := omega) only [zgr h2, zgr_si, zN_lit, zv, zald, h3, zN_mul, zN_add, zast, gi_ne, gi_si, zN_sub, Nat.add_sub_cancel, zneg]
  rfl
theorem radd_T {sg k a c p : Int32} (hn : nt < 400) (x : Nat) : rT nt x w (radd w nt sg k a c p) := ⟨fun z j q1 q2 => by unfold radd; rw [gi_ne (by omega), gi_ne (by omega), gi_ne (by omega), gi_ne (by omega), gi_ne (by omega), gi_ne (by omega), gi_ne (by omega)], fun _ _ => rfl, fun _ _ => rfl⟩
theorem radd_85 {sg k a c p : Int32} {j : Nat} : gi (radd w nt sg k a c p) 85 j = gi w 85 j := by unfold radd; rw [gi_ne (by omega), gi_ne (by omega), gi_ne (by omega), gi_ne (by omega), gi_ne (by omega), gi_ne (by omega), gi_ne (by omega)]
theorem radd_3 {sg k a c p : Int32} : gi (radd w nt sg k a c p) 89 3 = zN (nt + 1) := gi_si _ _ _ _
theorem radd_o {sg k a c p : Int32} : gi (radd w nt sg k a c p) 89 (1410 + 6 * nt) = sg ∧ gi (radd w nt sg k a c p) 89 (1410 + 6 * nt + 1) = k ∧ gi (radd w nt sg k a c p) 89 (1410 + 6 * nt + 2) = a ∧ gi (radd w nt sg k a c p) 89 (1410 + 6 * nt + 3) = c ∧ gi (radd w nt sg k a c p) 89 (1410 + 6 * nt + 4) = zM ∧ gi (radd w nt sg k a c p) 89 (1410 + 6 * nt + 5) = p := by
  unfold radd
  refine ⟨?_, ?_, ?_, ?_, ?_, ?_⟩
  · rw [gi_ne (by omega), gi_ne (by omega), gi_ne (by omega), gi_ne (by omega), gi_ne (by omega), gi_ne (by omega), gi_si]
  · rw [gi_ne (by omega), gi_ne (by omega), gi_ne (by omega), gi_ne (by omega), gi_ne (by omega), gi_si]
  · rw [gi_ne (by omega), gi_ne (by omega), gi_ne (by omega), gi_ne (by omega), gi_si]
  · rw [gi_ne (by omega), gi_ne (by omega), gi_ne (by omega), gi_si]
  · rw [gi_ne (by omega), gi_ne (by omega), gi_si]
  · rw [gi_ne (by omega), gi_si]
theorem rS_w {w' : XM} (h : rS N b n i w) (g : ∀ a k, gr w' a k = gr w a k) (g1 : ∀ k, k = 3 ∨ k = 4 ∨ k = 6 ∨ k = 7 → gi w' 85 k = gi w 85 k) (g2 : ∀ k, gi w' 87 k = gi w 87 k) : rS N b n i w' := by
  obtain ⟨⟨h1, h2, h3, h4, h5, h6⟩, h7, h8, q, h9, h10⟩ := h
  exact ⟨⟨h1, h2, h3, by rw [g]; exact h4, by rw [g1 _ (by omega)]; exact h5, fun k hk => by rw [g2]; exact h6 k hk⟩, by rw [g1 _ (by omega)]; exact h7, h8, q, by rw [g1 _ (by omega)]; exact h9, ⟨h10.1.1, by rw [g1 _ (by omega)]; exact h10.1.2⟩, h10.2⟩
theorem radd_S {sg k a c p : Int32} (h : rS N b n i w) : rS N b n i (radd w nt sg k a c p) := rS_w (w' := radd w nt sg k a c p) h (fun _ _ => rfl) (fun j _ => radd_85) (fun j => by unfold radd; rw [gi_ne (by omega), gi_ne (by omega), gi_ne (by omega), gi_ne (by omega), gi_ne (by omega), gi_ne (by omega), gi_ne (by omega)])
/-- both end with the same fault -/
def jF (d : Nat) (m w : XM) (cr rr : Option (Int32 × XM)) : Prop := ∃ f p m' v w', cr = some (zN 0, m') ∧ cX f p m' ∧ cO d m m' ∧ rr = some (v, w') ∧ rX f p w' ∧ rO w w'
/-- both go on: k terms more, the codes l -/
def jG (N : Nat → Nat) (b : Nat → Nat) (n d i t0 nc nt x : Nat) (m w m' w' : XM) (i' k : Nat) (l : List pK) : Prop :=
  cS N b n d i' m' ∧ gi m' 2 11 = zN (t0 + k) ∧ gi m' (d + 12) 0 = zN (nc + l.length) ∧ pcod m' d nc l ∧ cT d nc m m' ∧ tzp b n i + l.length ≤ tzp b n i'
  ∧ t0 + k ≤ 8 ∧ rS N b n i' w' ∧ gi w' 85 17 = zN (t0 + k) ∧ gi w' 89 3 = zN (nt + k) ∧ rT nt x w w' ∧ pfl (gi w' 89) nt (nt + k) l ∧ pso (tzp b n i) l (tzp b n i')
def jT (N : Nat → Nat) (b : Nat → Nat) (n d i t0 nc nt : Nat) (sg : Int32) (m w : XM) (cr rr : Option (Int32 × XM)) : Prop := ∃ m' w' i' k l,
  cr = some (zN 1, m') ∧ rr = some (zN nt, w') ∧ jG N b n d i t0 nc nt 3 m w m' w' i' k l ∧ 0 < k ∧ tzp b n i + 2 * k ≤ tzp b n i' + 1 ∧ (∀ s, s ≤ t0 → pcw l s (s + 1))
  ∧ gi w' 89 (1410 + 6 * nt) = sg ∧ gi w' 89 (1410 + 6 * nt + 4) = zM ∧ ∀ D, 8 - t0 ≤ D → pTm (gi w' 89) (nt + k) D nt l
def jSu (N : Nat → Nat) (b : Nat → Nat) (n d i t0 nc nt : Nat) (m w : XM) (cr rr : Option (Int32 × XM)) : Prop := ∃ m' w' i' k l,
  cr = some (zN 1, m') ∧ rr = some (zN nt, w') ∧ jG N b n d i t0 nc nt 3 m w m' w' i' k l ∧ 0 < k ∧ tzp b n i + 2 * k ≤ tzp b n i' + 1 ∧ (∀ s, s ≤ t0 → pcw l s (s + 1))
  ∧ ∀ D, 8 - t0 ≤ D → pSm (gi w' 89) (pTm (gi w' 89) (nt + k) D) nt l
def jLo (N : Nat → Nat) (b : Nat → Nat) (n d i t0 nc nt p : Nat) (x : Int32) (m w : XM) (cr rr : Option (Int32 × XM)) : Prop := ∃ m' w' i' k l ts,
  cr = some (zN 1, m') ∧ rr = some (x, w') ∧ jG N b n d i t0 nc nt (1410 + 6 * p + 4) m w m' w' i' k l ∧ tzp b n i + 2 * k ≤ tzp b n i' ∧ (∀ s, s + 1 ≤ t0 → pcw l (s + 1) (s + 1))
  ∧ ts.length ≤ k ∧ ∀ D, 8 - t0 ≤ D → pCh (gi w' 89) (pTm (gi w' 89) (nt + k) D) ts p l
/-- how both stand -/
def jH (N : Nat → Nat) (b : Nat → Nat) (n d i t0 nc nt : Nat) (m w : XM) : Prop := cS N b n d i m ∧ gi m 2 11 = zN t0 ∧ gi m (d + 12) 0 = zN nc ∧ nc ≤ tzp b n i ∧ rS N b n i w ∧ rN N w ∧ gi w 85 17 = zN t0 ∧ gi w 89 3 = zN nt
def QT (N : Nat → Nat) (b : Nat → Nat) (n d d0 : Nat) : Prop := ∀ e1 e2 t0 i nc nt sg m w, t0 + d0 = 8 → 2 * d0 + 1 ≤ e1 → 2 * d0 + 1 ≤ e2 → jH N b n d i t0 nc nt m w → nt + d0 ≤ 308 → jF d m w (gX1_readTerms N e1 1 2 m) (gX9_term N e2 0 85 sg w) ∨ jT N b n d i t0 nc nt sg m w (gX1_readTerms N e1 1 2 m) (gX9_term N e2 0 85 sg w)
def QS (N : Nat → Nat) (b : Nat → Nat) (n d d0 : Nat) : Prop := ∀ e1 e2 t0 i nc nt m w, t0 + d0 = 8 → 2 * d0 + 2 ≤ e1 → 2 * d0 + 2 ≤ e2 → jH N b n d i t0 nc nt m w → nt + d0 ≤ 308 → jF d m w (gX1_readTerms N e1 0 2 m) (gX9_term N e2 1 85 (zN 0) w) ∨ jSu N b n d i t0 nc nt m w (gX1_readTerms N e1 0 2 m) (gX9_term N e2 1 85 (zN 0) w)
def QL (N : Nat → Nat) (b : Nat → Nat) (n d d0 : Nat) : Prop := ∀ e1 e2 f1 f2 t0 i nc nt p x1 x m w, t0 + d0 = 8 → 2 * d0 + 1 ≤ e1 → 2 * d0 + 1 ≤ e2 → d0 < f1 → d0 < f2 → x1 + 1 ≤ t0 → p < nt → gi w 89 (1410 + 6 * p + 4) = zM → jH N b n d i t0 nc nt m w → nt + d0 ≤ 308 →
  jF d m w (fX1_readTerms_11 N (fun t q m0 => gX1_readTerms N e1 t q m0) f1 2 (zN x1) m) (fX9_sumOn_9 N (fun t q x0 m0 => gX9_term N e2 t q x0 m0) f2 85 x (zN p) w) ∨ jLo N b n d i t0 nc nt p x m w (fX1_readTerms_11 N (fun t q m0 => gX1_readTerms N e1 t q m0) f1 2 (zN x1) m) (fX9_sumOn_9 N (fun t q x0 m0 => gX9_term N e2 t q x0 m0) f2 85 x (zN p) w)
end TJ
