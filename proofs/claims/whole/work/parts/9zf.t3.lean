/-! ===== t: all tokens ===== -/
/-- the rows of tokens show the text's -/
def tzK (b : Nat → Nat) (n : Nat) (m : XM) (i : Nat) : Prop := gi m 25 i = zN (tzk b n (tzp b n i)) ∧ gi m 26 i = zN (tzp b n i) ∧ (tzk b n (tzp b n i) = 257 ∨ tzk b n (tzp b n i) = 258 ∨ tzk b n (tzp b n i) = 259 → gi m 27 i = zN (tzq b n (tzp b n i)))
/-- only rows of tokens change -/
def tzF (m m' : XM) : Prop := (∀ a k, a ≠ 25 → a ≠ 26 → a ≠ 27 → ¬ (a = 2 ∧ k = 6) → gi m' a k = gi m a k) ∧ (∀ a k, gr m' a k = gr m a k) ∧ ∀ a k, gl m' a k = gl m a k
section TD
variable {N : Nat → Nat} {b : Nat → Nat} {n : Nat}
theorem tzF_put {m : XM} {t : Nat} {k p v : Int32} : tzF m (tzput m t k p v) :=
  ⟨fun a j h1 h2 h3 h4 => by unfold tzput; rw [gi_ne (by omega), gi_ne (by omega), gi_ne (by omega), gi_ne (by omega)], fun _ _ => rfl, fun _ _ => rfl⟩
theorem tzF_tr {m m1 m2 : XM} (h : tzF m m1) (g : tzF m1 m2) : tzF m m2 := ⟨fun a k h1 h2 h3 h4 => (g.1 a k h1 h2 h3 h4).trans (h.1 a k h1 h2 h3 h4), fun a k => (g.2.1 a k).trans (h.2.1 a k), fun a k => (g.2.2 a k).trans (h.2.2 a k)⟩
theorem tzF_rf (m : XM) : tzF m m := ⟨fun _ _ _ _ _ _ => rfl, fun _ _ => rfl, fun _ _ => rfl⟩
theorem tzT_F {m m' : XM} (h : tzT N b n m) (g : tzF m m') : tzT N b n m' :=
  ⟨h.1, h.2.1, h.2.2.1, by rw [g.2.1]; exact h.2.2.2.1, by rw [g.1 _ _ (by omega) (by omega) (by omega) (by omega)]; exact h.2.2.2.2.1, fun k hk => by rw [g.1 _ _ (by omega) (by omega) (by omega) (by omega)]; exact h.2.2.2.2.2 k hk⟩
theorem tzG_F {m m' : XM} (h : tzG N m) (g : tzF m m') : tzG N m' := ⟨h.1, by rw [g.2.1]; exact h.2.1, by rw [g.2.1]; exact h.2.2.1, by rw [g.2.1]; exact h.2.2.2⟩
theorem tzput_old {m : XM} {t j : Nat} {k p v : Int32} (hj : j ≠ t) (h : tzK b n m j) : tzK b n (tzput m t k p v) j := by
  unfold tzK tzput at *
  rw [gi_ne (by omega), gi_ne (by omega), gi_ne (by omega), gi_ne (by omega), gi_ne (by omega), gi_ne (by omega), gi_ne (by omega), gi_ne (by omega), gi_ne (by omega), gi_ne (by omega), gi_ne (by omega), gi_ne (by omega)]
  exact h
theorem tzput_new {m : XM} {t : Nat} {v : Int32} (h : tzk b n (tzp b n t) = 257 ∨ tzk b n (tzp b n t) = 258 ∨ tzk b n (tzp b n t) = 259 → v = zN (tzq b n (tzp b n t))) : tzK b n (tzput m t (zN (tzk b n (tzp b n t))) (zN (tzp b n t)) v) t := by
  unfold tzK tzput
  refine ⟨?_, ?_, fun q => ?_⟩
  · rw [gi_ne (by omega), gi_ne (by omega), gi_ne (by omega), gi_si]
  · rw [gi_ne (by omega), gi_ne (by omega), gi_si]
  · rw [gi_ne (by omega), gi_si]; exact h q
theorem tzput_6 {m : XM} {t : Nat} {k p v : Int32} : gi (tzput m t k p v) 2 6 = zN (t + 1) := gi_si _ _ _ _
theorem c_end {m : XM} {t : Nat} (h : tzT N b n m) (hG : tzG N m) (ht : gi m 2 6 = zN t) (h6 : t < 601) : ∃ m', fX1_cutTokens_74 N XF 2 (zN 0) m = some m' ∧ tzF m m' ∧ (∀ j, j < t → tzK b n m j → tzK b n m' j) ∧ (n ≤ tzp b n t → tzp b n t ≤ n → tzK b n m' t) := by
  have hX := zXF
  obtain ⟨f, hf⟩ : ∃ f, XF = f + 3 := ⟨XF - 3, by omega⟩
  have h5 := h.2.2.2.2.1
  rw [hf]
  have G1 := tzG_F hG (tzF_put (m := m) (t := t) (k := zM) (p := zN n) (v := zN 0))
  have h51 : gi (tzput m t zM (zN n) (zN 0)) 2 5 = zN n := (tzT_F h tzF_put).2.2.2.2.1
  have e : fX1_cutTokens_74 N (f + 3) 2 (zN 0) m = some (tzput (tzput m t zM (zN n) (zN 0)) (t + 1) zM (zN n) (zN 0)) := by
    rw [fX1_cutTokens_74]
    simp (disch := omega) only [zv, zN_lit, zN_le, h5, zneg]
    rw [if_neg (show ¬ 2 ≤ 0 by omega), c_put hG ht (by omega), zcv, fX1_cutTokens_74]
    simp (disch := omega) only [zv, zN_lit, zN_add, zN_le, h51, zneg]
    rw [if_neg (show ¬ 2 ≤ 0 + 1 by omega), c_put G1 tzput_6 (by omega), zcv, fX1_cutTokens_74]
    simp (disch := omega) only [zv, zN_lit, zN_le]
    rw [if_pos (show 2 ≤ 0 + 1 + 1 by omega)]
  refine ⟨_, e, tzF_tr tzF_put tzF_put, fun j hj hk => tzput_old (by omega) (tzput_old (by omega) hk), fun q1 q2 => tzput_old (by omega) ?_⟩
  have ek := tzk_E (b := b) q1
  have ep : tzp b n t = n := by omega
  have := tzput_new (b := b) (n := n) (m := m) (t := t) (v := zN 0) (fun q => by rw [ek] at q; omega)
  rw [ek, zKE] at this
  rw [ep] at this
  exact this
theorem c_cut31 : ∀ (g f i x t : Nat) (m : XM), n - i = g → g < f → tzT N b n m → tzG N m → gi m 2 6 = zN t → tzo b n t → (∀ j, j < t → tzK b n m j) → x ≤ n → i ≤ n → tzb b n (max i x) = tzp b n t → ∃ m', fX1_cutTokens_31 N f 2 (zN x) (zN i) m = some m' ∧ tzF m m' ∧ ∀ j, tzo b n j → tzK b n m' j := by
  intro g
  induction g with
  | zero =>
    intro f i x t m hg hf hT hG ht ho hk hx hi hb
    obtain ⟨f, rfl⟩ : ∃ f', f = f' + 1 := ⟨f - 1, by omega⟩
    have hn := hT.2.1
    have h5 := hT.2.2.2.2.1
    have htl := tzo_le ho
    have hp : tzp b n t = n := by
      rw [← hb, tzb_n (by omega)]
      omega
    obtain ⟨m', e1, e2, e3, e4⟩ := c_end (b := b) hT hG ht (by omega)
    refine ⟨m', ?_, e2, fun j hj => ?_⟩
    · rw [fX1_cutTokens_31]
      simp (disch := omega) only [zv, h5, zN_le, zN_lit]
      rw [if_pos (show n ≤ i by omega)]
      exact e1
    · by_cases q : j < t
      · exact e3 j q (hk j q)
      · by_cases q2 : j = t
        · rw [q2]; exact e4 (by omega) (by omega)
        · have := hj t (by omega)
          omega
  | succ g ih =>
    intro f i x t m hg hf hT hG ht ho hk hx hi hb
    obtain ⟨f, rfl⟩ : ∃ f', f = f' + 1 := ⟨f - 1, by omega⟩
    obtain ⟨h1, hn, h3, h4, h5, h6⟩ := id hT
    have htl := tzo_le ho
    have hi' : ¬ n ≤ i := by omega
    rw [fX1_cutTokens_31]
    simp (disch := omega) only [zv, h5, zN_le, zN_lt, hi', if_false]
    unfold fX1_cutTokens_65
    by_cases hx2 : i < x
    · rw [if_pos hx2]
      simp only [zv, zN_lit, zN_add]
      exact ih f (i + 1) x t m (by omega) (by omega) hT hG ht ho hk hx (by omega) (by rw [← hb]; congr 1; omega)
    · rw [if_neg hx2]
      rw [show max i x = i by omega] at hb
      have hbi := h3 i (by omega)
      simp (disch := omega) only [zgr h4, zald, h6, zv, zN_lit, zN_eq]
      by_cases h32 : b i = 32
      · rw [if_pos h32]
        simp only [zN_add]
        exact ih f (i + 1) x t m (by omega) (by omega) hT hG ht ho hk hx (by omega) (by rw [← hb, show max (i + 1) x = i + 1 by omega]; exact (tzb_y (by omega) h32).symm)
      · rw [if_neg h32]
        have hpi : tzp b n t = i := by rw [← hb]; exact tzb_n (fun q => h32 q.2)
        obtain ⟨v, e1, e2⟩ := c_tok hT hG (p := i) (t := t) (by omega) ht (by omega)
        rw [e1, zca]
        simp only [zN_add]
        have hle := tzn_le (b := b) (show i < n by omega)
        have hgt := tzn_gt (b := b) (show i < n by omega)
        obtain ⟨m', a1, a2, a3⟩ := ih f (i + 1) (tzn b n i) (t + 1) (tzput m t (zN (tzk b n i)) (zN i) v) (by omega) (by omega) (tzT_F hT tzF_put) (tzG_F hG tzF_put) tzput_6 (tzo_s ho (by omega)) (fun j hj => by
          by_cases q : j = t
          · rw [q]
            have := tzput_new (b := b) (n := n) (m := m) (t := t) (v := v) (by rw [hpi]; exact e2)
            rw [hpi] at this
            exact this
          · exact tzput_old q (hk j (by omega))) hle (by omega) (by
          rw [show max (i + 1) (tzn b n i) = tzn b n i by omega]
          show _ = tzb b n (tzn b n (tzp b n t))
          rw [hpi])
        exact ⟨m', a1, tzF_tr tzF_put a2, a3⟩
theorem c_cut {m : XM} (h1 : N 1 = 600) (hn : n ≤ 600) (h3 : ∀ k, k < n → b k < 256) (h6 : ∀ k, k < n → gi m 1 k = zN (b k)) (hG : tzG N m) : ∃ m', fX1_cutTokens N 2 1 (zN n) m = some m' ∧ tzT N b n m' ∧ (∀ j, tzo b n j → tzK b n m' j) ∧ (∀ a k, a ≠ 25 → a ≠ 26 → a ≠ 27 → ¬ (a = 2 ∧ (k = 5 ∨ k = 6)) → gi m' a k = gi m a k) ∧ (∀ a k, ¬ (a = 2 ∧ k = 4) → gr m' a k = gr m a k) ∧ ∀ a k, gl m' a k = gl m a k := by
  have hX := zXF
  generalize hm1 : si (si (sr m 2 4 (some 1)) 2 5 (zN n)) 2 6 (zN 0) = m1
  have hT : tzT N b n m1 := by
    rw [← hm1]
    refine ⟨h1, hn, h3, by rw [gr_si, gr_si, gr_sr], by rw [gi_ne (by omega), gi_si], fun k hk => by rw [gi_ne (by omega), gi_ne (by omega), gi_sr]; exact h6 k hk⟩
  have hG1 : tzG N m1 := by
    rw [← hm1]
    obtain ⟨g1, g2, g3, g4⟩ := hG
    exact ⟨g1, by rw [gr_si, gr_si, gr_ne (by omega)]; exact g2, by rw [gr_si, gr_si, gr_ne (by omega)]; exact g3, by rw [gr_si, gr_si, gr_ne (by omega)]; exact g4⟩
  obtain ⟨m', a1, a2, a3⟩ := c_cut31 (b := b) (N := N) n XF 0 0 0 m1 (by omega) (by omega) hT hG1 (by rw [← hm1, gi_si]) (fun j hj => by omega) (fun j hj => by omega) (by omega) (by omega) rfl
  refine ⟨m', ?_, tzT_F hT a2, a3, fun a k q1 q2 q3 q4 => ?_, fun a k q => ?_, fun a k => ?_⟩
  · unfold fX1_cutTokens
    simp (disch := omega) only [zv, zN_of, h1, zN_lit, c_min, zca]
    rw [show min n (min 600 600) = n by omega, hm1]
    exact a1
  · rw [a2.1 a k q1 q2 q3 (by omega), ← hm1, gi_ne (by omega), gi_ne (by omega), gi_sr]
  · rw [a2.2.1, ← hm1, gr_si, gr_si, gr_ne (by omega)]
  · rw [a2.2.2, ← hm1]; rfl
end TD
