/-! ===== t: words, letters, names, numbers of the other reader ===== -/
section TF
variable {N : Nat → Nat} {b : Nat → Nat} {n i : Nat} {m m' : XM}
theorem r_w7 (hR : tzR N b n m) {t j p : Nat} (hj : j < 8) (ht : t = 8 + j) (h4 : gi m 85 4 = zN p) (hp : p ≤ n) : ∀ (w : List Nat) (f k : Nat), k + w.length = (tzW j).length → (tzW j).drop k = w → w.length < f → (tzM b n w (p + k) → fX9_isWord_7 N f 85 t (zN k) m = some (zN 1, m)) ∧ (¬ tzM b n w (p + k) → fX9_isWord_7 N f 85 t (zN k) m = some (zN 0, m)) := by
  have hn := hR.2.1
  have hb := hR.2.2.1
  have hln := tzW_ln j
  have hl := (c_wl j hj).2
  rw [← ht] at hl
  intro w
  induction w with
  | nil =>
    intro f k hk hd hf
    obtain ⟨f, rfl⟩ : ∃ f', f = f' + 1 := ⟨f - 1, by omega⟩
    have hk' : k = (tzW j).length := by simpa using hk
    have e : fX9_isWord_7 N (f + 1) 85 t (zN k) m = if p + k < n ∧ 97 ≤ b (p + k) ∧ b (p + k) ≤ 122 then some (zN 0, m) else some (zN 1, m) := by
      rw [fX9_isWord_7]
      simp (disch := omega) only [zv, fJ0_length_8abf5, hl, zN_of, zca, zN_le, zN_lit]
      rw [if_pos (show (tzW j).length ≤ k by omega)]
      unfold fX9_isWord_39 fX9_isWord_67
      simp (disch := omega) only [zv, fJ0_length_8abf5, hl, zN_of, zca, zN_eq, zN_lit, ← hk', if_true, h4, zN_add, r_byt hR, r_sml hb]
      by_cases q : p + k < n ∧ 97 ≤ b (p + k) ∧ b (p + k) ≤ 122
      · rw [if_pos q, if_pos q]
        simp only [zN10, if_false]
      · rw [if_neg q, if_neg q]
        simp only [if_true]
    rw [e]
    refine ⟨fun q => ?_, fun q => ?_⟩
    · have q' : ¬ (p + k < n ∧ 97 ≤ b (p + k) ∧ b (p + k) ≤ 122) := q
      rw [if_neg q']
    · have q' : ¬ ¬ (p + k < n ∧ 97 ≤ b (p + k) ∧ b (p + k) ≤ 122) := q
      rw [if_pos (Classical.byContradiction q')]
  | cons c w ih =>
    intro f k hk hd hf
    have hk' : k + (w.length + 1) = (tzW j).length := hk
    have hf' : w.length + 1 < f := hf
    obtain ⟨f, rfl⟩ : ∃ f', f = f' + 1 := ⟨f - 1, by omega⟩
    obtain ⟨d1, d2⟩ := tz_drop _ _ _ _ hd
    have hc := (c_wc j hj k (by omega)).2
    rw [d1, ← ht] at hc
    have hcs := tzW_sm j c (by rw [← List.take_append_drop k (tzW j), hd]; simp)
    have hin : xin (zN k) (xslen.getD t 0) := by rw [zN_in (by omega), hl]; omega
    have hkl : ¬ k = (tzW j).length := by omega
    have e : fX9_isWord_7 N (f + 1) 85 t (zN k) m = if p + k < n ∧ b (p + k) = c then fX9_isWord_7 N f 85 t (zN (k + 1)) m else some (zN 0, m) := by
      rw [fX9_isWord_7]
      simp (disch := omega) only [zv, fJ0_length_8abf5, hl, zN_of, zca, zN_le, zN_lit]
      rw [if_neg (show ¬ (tzW j).length ≤ k by omega)]
      unfold fX9_isWord_39 fX9_isWord_67
      simp (disch := omega) only [zv, h4, zN_add, r_byt hR, fJ0_charAt_5068e, zca]
      rw [if_pos hin, hc, zca]
      simp (disch := omega) only [fJ0_length_8abf5, hl, zN_of, zca, tzB_c hb, zN_eq, hkl, if_false, zN_lit]
    obtain ⟨i1, i2⟩ := ih f (k + 1) (by omega) d2 (by omega)
    rw [e]
    refine ⟨fun q => ?_, fun q => ?_⟩
    · obtain ⟨q0, q1, q2⟩ : p + k < n ∧ b (p + k) = c ∧ tzM b n w (p + k + 1) := q
      rw [if_pos ⟨q0, q1⟩]
      exact i1 q2
    · by_cases q1 : p + k < n ∧ b (p + k) = c
      · rw [if_pos q1]
        exact i2 (fun q2 => q ⟨q1.1, q1.2, q2⟩)
      · rw [if_neg q1]
theorem r_word (h : rS N b n i m) {t j : Nat} (hj : j < 8) (ht : t = 8 + j) : ∃ m', fX9_isWord N 85 t m = some (if tzk b n (tzp b n i) = 260 + j then zN 1 else zN 0, m') ∧ rS N b n i m' ∧ gi m' 85 4 = zN (tzp b n i) ∧ rF m m' := by
  have hX := zXF
  have hln := tzW_ln j
  obtain ⟨m1, a1, a2, a3, a4⟩ := r_here h
  refine ⟨m1, ?_, a2, a3, a4⟩
  unfold fX9_isWord
  rw [a1, zca]
  simp only [zN_lit]
  obtain ⟨i1, i2⟩ := r_w7 a2.1 hj ht a3 (tzo_le h.2.2.1).2 (tzW j) XF 0 (by omega) rfl (by omega)
  by_cases q : tzk b n (tzp b n i) = 260 + j
  · rw [if_pos q]
    exact i1 ((tzk_wd h.1.2.2.1 hj).1 q)
  · rw [if_neg q]
    exact i2 (fun r => q ((tzk_wd h.1.2.2.1 hj).2 r))
theorem tz_wd {p j : Nat} (hb : ∀ k, k < n → b k < 256) (hj : j < 8) (hk : tzk b n p = 260 + j) : p < n ∧ tzn b n p = p + (tzW j).length := by
  have h1 := (tzk_wd hb hj).1 hk
  have hln := tzW_ln j
  obtain ⟨q1, q2⟩ := (tzM_m (b := b) (n := n) _ _ (tzW_sm j)).1 h1
  have h2 := (tze_sp (b := b) (n := n) (lo := 97) (hi := 122) _ p rfl).2.2.1 p (Nat.le_refl _) (by omega)
  refine ⟨h2.1, ?_⟩
  unfold tzn
  rw [if_neg (by omega), if_pos h2.2]
  exact q1
theorem r_tw_y (h : rS N b n i m) {t j : Nat} (hj : j < 8) (ht : t = 8 + j) (hk : tzk b n (tzp b n i) = 260 + j) : ∃ m', fX9_takesWord N 85 t m = some (zN 1, m') ∧ rS N b n (i + 1) m' ∧ rF m m' := by
  have hb := h.1.2.2.1
  have hl := (c_wl j hj).2
  rw [← ht] at hl
  obtain ⟨p1, p2⟩ := tz_wd hb hj hk
  obtain ⟨m1, a1, a2, a3, a4⟩ := r_word h hj ht
  rw [if_pos hk] at a1
  have := rS_s a2 p1
  rw [p2] at this
  refine ⟨_, ?_, this, rF_tr a4 rF_si⟩
  unfold fX9_takesWord
  rw [r_fine h]
  simp only [zca, zN_lit, zN10, if_false, a1, zv, fJ0_length_8abf5, hl, zN_of, a3, zN_add]
theorem r_tw_n (h : rS N b n i m) {t j : Nat} (hj : j < 8) (ht : t = 8 + j) (hk : ¬ tzk b n (tzp b n i) = 260 + j) : ∃ m', fX9_takesWord N 85 t m = some (zN 0, m') ∧ rS N b n i m' ∧ gi m' 85 4 = zN (tzp b n i) ∧ rF m m' := by
  obtain ⟨m1, a1, a2, a3, a4⟩ := r_word h hj ht
  rw [if_neg hk] at a1
  refine ⟨m1, ?_, a2, a3, a4⟩
  unfold fX9_takesWord
  rw [r_fine h]
  simp only [zca, zN_lit, zN10, if_false, a1, if_true]
theorem r_tw_d {f p t : Nat} (h : rX f p m) : fX9_takesWord N 85 t m = some (zN 0, m) := by
  unfold fX9_takesWord
  rw [r_dead h]
  simp only [zca, zN_lit, if_true]
theorem r_unit (h : rS N b n i m) : ∃ m', fX9_isUnitHere N 85 m = some (if tzk b n (tzp b n i) = 257 then zN 1 else zN 0, m') ∧ rS N b n i m' ∧ gi m' 85 4 = zN (tzp b n i) ∧ rF m m' := by
  have hb := h.1.2.2.1
  have hn := h.1.2.1
  have hle := (tzo_le h.2.2.1).2
  obtain ⟨m1, a1, a2, a3, a4⟩ := r_here h
  refine ⟨m1, ?_, a2, a3, a4⟩
  have hL := tzL_le (b := b) (n := n) (tzp b n i + 1)
  unfold fX9_isUnitHere fX9_isUnitHere_50
  rw [a1]
  simp (disch := omega) only [zca, zN_lit, r_in hb]
  by_cases q : tzp b n i < n ∧ 65 ≤ b (tzp b n i) ∧ b (tzp b n i) ≤ 71
  · rw [if_pos q]
    simp (disch := omega) only [zN10, if_false, zv, a3, zN_add, r_byt a2.1, zca, r_sml hb, r_big hb]
    by_cases q1 : tzp b n i + 1 < n ∧ 97 ≤ b (tzp b n i + 1) ∧ b (tzp b n i + 1) ≤ 122
    · have : tzL b n (tzp b n i + 1) = 1 := if_pos ⟨q1.1, Or.inl q1.2⟩
      rw [if_pos q1, if_neg (show ¬ tzk b n (tzp b n i) = 257 by rw [tzk_ca hb]; omega)]
      simp only [zN10, if_false]
    · rw [if_neg q1]
      simp only [if_true]
      by_cases q2 : tzp b n i + 1 < n ∧ 65 ≤ b (tzp b n i + 1) ∧ b (tzp b n i + 1) ≤ 90
      · have : tzL b n (tzp b n i + 1) = 1 := if_pos ⟨q2.1, Or.inr q2.2⟩
        rw [if_pos q2, if_neg (show ¬ tzk b n (tzp b n i) = 257 by rw [tzk_ca hb]; omega)]
        simp only [zN10, if_false]
      · have : tzL b n (tzp b n i + 1) = 0 := if_neg (by omega)
        rw [if_neg q2, if_pos (show tzk b n (tzp b n i) = 257 by rw [tzk_ca hb]; omega)]
        simp only [if_true]
  · rw [if_neg q, if_neg (show ¬ tzk b n (tzp b n i) = 257 by rw [tzk_ca hb]; omega)]
    simp only [if_true]
theorem tz_ca {p : Nat} (hb : ∀ k, k < n → b k < 256) (hk : tzk b n p = 257) : p < n ∧ tzn b n p = p + 1 ∧ tzq b n p = b p - 65 ∧ 65 ≤ b p ∧ b p ≤ 71 ∧ tzB b n p = zN (b p) := by
  obtain ⟨h1, h2, h3, h4⟩ := (tzk_ca hb).1 hk
  refine ⟨h1, ?_, ?_, h2, h3, if_pos h1⟩
  · unfold tzn
    rw [if_neg (by omega), if_neg (by omega)]
  · unfold tzq
    rw [if_neg (by omega), if_neg (by omega)]
theorem tz_sm {p : Nat} (hb : ∀ k, k < n → b k < 256) (hk : tzk b n p = 258) : p < n ∧ tzn b n p = p + 1 ∧ tzq b n p = b p - 97 ∧ 97 ≤ b p ∧ b p ≤ 122 ∧ tzB b n p = zN (b p) := by
  obtain ⟨h1, h2, h3, h4⟩ := (tzk_sm hb).1 hk
  refine ⟨h1, ?_, ?_, h2, h3, if_pos h1⟩
  · unfold tzn
    rw [if_neg (by omega), if_pos (by omega), tze_y ⟨h1, h2, h3⟩]
    have := tzL_0 h4
    exact tze_n (by omega)
  · unfold tzq
    rw [if_neg (by omega), if_pos (by omega)]
theorem r_more : fX9_more N (zN 0) zM m = some (zN 0, m) := by
  unfold fX9_more
  simp (disch := omega) only [zle_m, if_false]
theorem r_let_y (h : rS N b n i m) (hk : tzk b n (tzp b n i) = 257) : ∃ m', fX9_letterHere N 85 m = some (zN (tzq b n (tzp b n i)), m') ∧ rS N b n (i + 1) m' ∧ rF m m' := by
  have hb := h.1.2.2.1
  have hn := h.1.2.1
  obtain ⟨p1, p2, p3, p4, p5, p6⟩ := tz_ca hb hk
  obtain ⟨m1, a1, a2, a3, a4⟩ := r_unit h
  rw [if_pos hk] at a1
  have hs := rS_s a2 p1
  rw [p2] at hs
  refine ⟨_, ?_, hs, rF_tr a4 rF_si⟩
  unfold fX9_letterHere
  rw [r_fine h]
  simp only [zca, zN_lit, zN10, if_false, a1, zv, a3, zN_add, gi_si]
  simp (disch := omega) only [zN_sub, Nat.add_sub_cancel, r_byt hs.1, zca, p6, p3]
theorem r_let_n (h : rS N b n i m) (hk : ¬ tzk b n (tzp b n i) = 257) : ∃ m', fX9_letterHere N 85 m = some (zN 0, m') ∧ rX 1 (tzp b n i) m' ∧ rE m m' := by
  obtain ⟨m1, a1, a2, a3, a4⟩ := r_unit h
  rw [if_neg hk] at a1
  obtain ⟨m2, b1, b2, b3⟩ := r_wrong (N := N) (m := m1) (f := 1) (p := tzp b n i) a2.2.1 (by omega) (by omega)
  refine ⟨m2, ?_, b2, rE_tr (rF_E a4) b3⟩
  unfold fX9_letterHere
  rw [r_fine h]
  simp only [zca, zN_lit, zN10, if_false, a1, if_true, zv, a3, b1, r_more]
theorem r_let_d {f p : Nat} (h : rX f p m) : fX9_letterHere N 85 m = some (zN 0, m) := by
  unfold fX9_letterHere
  rw [r_dead h]
  simp only [zca, zN_lit, if_true]
theorem r_nam_y (h : rS N b n i m) (hk : tzk b n (tzp b n i) = 258) : ∃ m', fX9_nameHere N 85 m = some (zN (tzq b n (tzp b n i)), m') ∧ rS N b n (i + 1) m' ∧ rF m m' := by
  have hb := h.1.2.2.1
  have hn := h.1.2.1
  obtain ⟨p1, p2, p3, p4, p5, p6⟩ := tz_sm hb hk
  have hL := tzL_0 ((tzk_sm hb).1 hk).2.2.2
  obtain ⟨m1, a1, a2, a3, a4⟩ := r_here h
  have hs := rS_s a2 p1
  rw [p2] at hs
  refine ⟨_, ?_, hs, rF_tr a4 rF_si⟩
  unfold fX9_nameHere
  rw [r_fine h]
  simp only [zca, zN_lit, zN10, if_false, a1, r_sml hb]
  rw [if_pos (show tzp b n i < n ∧ 97 ≤ b (tzp b n i) ∧ b (tzp b n i) ≤ 122 by omega)]
  simp (disch := omega) only [zN10, if_false, zv, a3, zN_add, r_byt a2.1, zca, r_sml hb, r_big hb]
  rw [if_neg (show ¬ (tzp b n i + 1 < n ∧ 97 ≤ b (tzp b n i + 1) ∧ b (tzp b n i + 1) ≤ 122) by omega), if_neg (show ¬ (tzp b n i + 1 < n ∧ 65 ≤ b (tzp b n i + 1) ∧ b (tzp b n i + 1) ≤ 90) by omega)]
  simp (disch := omega) only [if_true, gi_si, zN_sub, Nat.add_sub_cancel, r_byt hs.1, zca, p6, p3]
theorem r_nam_n (h : rS N b n i m) (hk : ¬ tzk b n (tzp b n i) = 258) : ∃ m', fX9_nameHere N 85 m = some (zN 0, m') ∧ rX 1 (tzp b n i) m' ∧ rE m m' := by
  have hb := h.1.2.2.1
  have hn := h.1.2.1
  have hle := (tzo_le h.2.2.1).2
  obtain ⟨m1, a1, a2, a3, a4⟩ := r_here h
  obtain ⟨m2, b1, b2, b3⟩ := r_wrong (N := N) (m := m1) (f := 1) (p := tzp b n i) a2.2.1 (by omega) (by omega)
  refine ⟨m2, ?_, b2, rE_tr (rF_E a4) b3⟩
  have e51 : fX9_nameHere_51 N 85 m1 = some (zN 0, m2) := by
    unfold fX9_nameHere_51
    simp only [zv, zN_lit, a3, b1, zca, r_more]
  have hk' := fun q => hk ((tzk_sm hb).2 q)
  unfold fX9_nameHere
  rw [r_fine h]
  simp only [zca, zN_lit, zN10, if_false, a1, r_sml hb]
  by_cases q : tzp b n i < n ∧ 97 ≤ b (tzp b n i) ∧ b (tzp b n i) ≤ 122
  · rw [if_pos q]
    simp (disch := omega) only [zN10, if_false, zv, a3, zN_add, r_byt a2.1, zca, r_sml hb, r_big hb]
    by_cases q1 : tzp b n i + 1 < n ∧ 97 ≤ b (tzp b n i + 1) ∧ b (tzp b n i + 1) ≤ 122
    · rw [if_pos q1]
      simp only [zN10, if_false]
      exact e51
    · rw [if_neg q1]
      by_cases q2 : tzp b n i + 1 < n ∧ 65 ≤ b (tzp b n i + 1) ∧ b (tzp b n i + 1) ≤ 90
      · rw [if_pos q2]
        simp only [zN10, if_false, if_true]
        exact e51
      · exact absurd (show tzp b n i < n ∧ 97 ≤ b (tzp b n i) ∧ b (tzp b n i) ≤ 122 ∧ tzL b n (tzp b n i + 1) = 0 from ⟨q.1, q.2.1, q.2.2, if_neg (by omega)⟩) hk'
  · rw [if_neg q]
    simp only [if_true]
    exact e51
theorem r_nam_d {f p : Nat} (h : rX f p m) : fX9_nameHere N 85 m = some (zN 0, m) := by
  unfold fX9_nameHere
  rw [r_dead h]
  simp only [zca, zN_lit, if_true]
theorem r_less {a : Nat} (ha : a < 2147483648) : fX9_less N (zN 1000) (zN a) m = some (zN (min a 1000), m) := by
  unfold fX9_less
  simp (disch := omega) only [zN_le]
  by_cases h : a ≤ 1000
  · rw [if_pos h, Nat.min_eq_left h]
  · rw [if_neg h, Nat.min_eq_right (by omega)]
theorem r_num40 {x1 : Int32} : ∀ (g f k v : Nat) (m : XM), n - k = g → g < f → v ≤ 1000 → k ≤ n → tzR N b n m → gi m 85 4 = zN k → ∃ m', rF m m' ∧ gi m' 85 4 = zN (tze b n 48 57 k) ∧ fX9_numberHere_40 N f 85 x1 (zN v) m = (if tzd b n g k v ≤ 999 then fX9_numberHere_104 N 85 (zN (tzd b n g k v)) m' else xca (fX9_wrong N 85 (zN 2) x1 m') fun _ m6 => fX9_numberHere_104 N 85 (zN (tzd b n g k v)) m6) := by
  intro g
  induction g with
  | zero =>
    intro f k v m hg hf hv hk hR h4
    have hb := hR.2.2.1
    have hn := hR.2.1
    obtain ⟨f, rfl⟩ : ∃ f', f = f' + 1 := ⟨f - 1, by omega⟩
    have e : ¬ (k < n ∧ 48 ≤ b k ∧ b k ≤ 57) := by omega
    refine ⟨m, rF_rf m, by rw [tze_n e]; exact h4, ?_⟩
    rw [fX9_numberHere_40]
    simp (disch := omega) only [zv, h4, r_byt hR, zca, r_dig hb, e, if_false, zN_lit, if_true, zN_le]
    rfl
  | succ g ih =>
    intro f k v m hg hf hv hk hR h4
    have hb := hR.2.2.1
    have hn := hR.2.1
    obtain ⟨f, rfl⟩ : ∃ f', f = f' + 1 := ⟨f - 1, by omega⟩
    have e0 : tzd b n (g + 1) k v = if k < n ∧ 48 ≤ b k ∧ b k ≤ 57 then tzd b n g (k + 1) (min (v * 10 + b k - 48) 1000) else v := rfl
    by_cases e : k < n ∧ 48 ≤ b k ∧ b k ≤ 57
    · have hB : tzB b n k = zN (b k) := if_pos e.1
      obtain ⟨m', a1, a2, a3⟩ := ih f (k + 1) (min (v * 10 + b k - 48) 1000) (si m 85 4 (zN (k + 1))) (by omega) (by omega) (Nat.min_le_right _ _) (by omega) (tzR_E hR (rF_E rF_si)) (gi_si _ _ _ _)
      refine ⟨m', rF_tr rF_si a1, by rw [tze_y e]; exact a2, ?_⟩
      rw [e0, if_pos e, ← a3, fX9_numberHere_40]
      simp (disch := omega) only [zv, h4, r_byt hR, zca, r_dig hb, e, and_self, if_true, zN_lit, zN10, if_false]
      simp (disch := omega) only [zN_mul, hB, zN_add, zN_sub, r_less, zca, h4, Nat.mul_comm 10 v]
    · refine ⟨m, rF_rf m, by rw [tze_n e]; exact h4, ?_⟩
      rw [e0, if_neg e, fX9_numberHere_40]
      simp (disch := omega) only [zv, h4, r_byt hR, zca, r_dig hb, e, if_false, zN_lit, if_true, zN_le]
theorem tz_dg {p : Nat} (hb : ∀ k, k < n → b k < 256) (hk : tzk b n p = 259) : p < n ∧ tzn b n p = tze b n 48 57 p ∧ tzq b n p = tzd b n (n - p) p 0 ∧ 48 ≤ b p ∧ b p ≤ 57 := by
  obtain ⟨h1, h2, h3⟩ := (tzk_dg hb).1 hk
  exact ⟨h1, if_pos ⟨h2, h3⟩, if_pos ⟨h2, h3⟩, h2, h3⟩
theorem r_nu_a (h : rS N b n i m) (hk : tzk b n (tzp b n i) = 259) : ∃ m', rS N b n (i + 1) m' ∧ rF m m' ∧ fX9_numberHere N 85 m = (if tzq b n (tzp b n i) ≤ 999 then fX9_numberHere_104 N 85 (zN (tzq b n (tzp b n i))) m' else xca (fX9_wrong N 85 (zN 2) (zN (tzp b n i)) m') fun _ m6 => fX9_numberHere_104 N 85 (zN (tzq b n (tzp b n i))) m6) := by
  have hb := h.1.2.2.1
  have hn := h.1.2.1
  have hX := zXF
  obtain ⟨p1, p2, p3, p4, p5⟩ := tz_dg hb hk
  obtain ⟨m1, a1, a2, a3, a4⟩ := r_here h
  obtain ⟨m2, b1, b2, b3⟩ := r_num40 (N := N) (b := b) (x1 := zN (tzp b n i)) (n - tzp b n i) XF (tzp b n i) 0 m1 rfl (by omega) (by omega) (by omega) a2.1 a3
  refine ⟨m2, rS_mk a2 b1 b2 (tze_le (by omega)) (tzo_s h.2.2.1 p1) (by rw [← p2]; rfl), rF_tr a4 b1, ?_⟩
  unfold fX9_numberHere
  rw [r_fine h]
  simp only [zca, zN_lit, zN10, if_false, a1, r_dig hb]
  rw [if_pos (show tzp b n i < n ∧ 48 ≤ b (tzp b n i) ∧ b (tzp b n i) ≤ 57 by omega)]
  simp only [zN10, if_false, zv, a3]
  rw [b3, p3]
theorem r_nu_y (h : rS N b n i m) (hk : tzk b n (tzp b n i) = 259) (hv : tzq b n (tzp b n i) ≤ 999) : ∃ m', fX9_numberHere N 85 m = some (zN (tzq b n (tzp b n i)), m') ∧ rS N b n (i + 1) m' ∧ rF m m' := by
  obtain ⟨m', a1, a2, a3⟩ := r_nu_a h hk
  refine ⟨m', ?_, a1, a2⟩
  rw [a3, if_pos hv]
  unfold fX9_numberHere_104
  rw [r_fine a1]
  simp only [zca, zN_lit, zN10, if_false]
theorem r_nu_2 (h : rS N b n i m) (hk : tzk b n (tzp b n i) = 259) (hv : ¬ tzq b n (tzp b n i) ≤ 999) : ∃ m', fX9_numberHere N 85 m = some (zN 0, m') ∧ rX 2 (tzp b n i) m' ∧ rE m m' := by
  obtain ⟨m1, a1, a2, a3⟩ := r_nu_a h hk
  obtain ⟨m2, b1, b2, b3⟩ := r_wrong (N := N) (m := m1) (f := 2) (p := tzp b n i) a1.2.1 (by omega) (by omega)
  refine ⟨m2, ?_, b2, rE_tr (rF_E a2) b3⟩
  rw [a3, if_neg hv, b1]
  unfold fX9_numberHere_104
  rw [zca, r_dead b2]
  simp only [zca, zN_lit, if_true]
theorem r_nu_n (h : rS N b n i m) (hk : ¬ tzk b n (tzp b n i) = 259) : ∃ m', fX9_numberHere N 85 m = some (zN 0, m') ∧ rX 1 (tzp b n i) m' ∧ rE m m' := by
  have hb := h.1.2.2.1
  obtain ⟨m1, a1, a2, a3, a4⟩ := r_here h
  obtain ⟨m2, b1, b2, b3⟩ := r_wrong (N := N) (m := m1) (f := 1) (p := tzp b n i) a2.2.1 (by omega) (by omega)
  refine ⟨m2, ?_, b2, rE_tr (rF_E a4) b3⟩
  have hk' := fun q => hk ((tzk_dg hb).2 q)
  unfold fX9_numberHere
  rw [r_fine h]
  simp only [zca, zN_lit, zN10, if_false, a1, r_dig hb]
  rw [if_neg hk']
  simp only [if_true, zv, a3, b1, zca, r_more]
theorem r_nu_d {f p : Nat} (h : rX f p m) : fX9_numberHere N 85 m = some (zN 0, m) := by
  unfold fX9_numberHere
  rw [r_dead h]
  simp only [zca, zN_lit, if_true]
end TF
