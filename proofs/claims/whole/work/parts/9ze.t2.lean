/-! ===== t: the text is cut into tokens ===== -/
theorem zN_of (k : Nat) : Int32.ofNat k = zN k := Eq.trans rfl rfl
theorem tz_drop : ∀ (l : List Nat) (k c : Nat) (w : List Nat), l.drop k = c :: w → l.getD k 0 = c ∧ l.drop (k + 1) = w
  | [], k, c, w, h => by simp at h
  | a :: l, 0, c, w, h => by
    have h' : a :: l = c :: w := h
    cases h'
    exact ⟨rfl, rfl⟩
  | a :: l, k + 1, c, w, h => by
    have h' : l.drop k = c :: w := h
    have := tz_drop l k c w h'
    exact this
theorem c_wl : ∀ j, j < 8 → xslen.getD j 0 = (tzW j).length ∧ xslen.getD (8 + j) 0 = (tzW j).length := by decide +kernel
theorem c_wc : ∀ j, j < 8 → ∀ k, k < (tzW j).length → xchar j (zN k) = zN ((tzW j).getD k 0) ∧ xchar (8 + j) (zN k) = zN ((tzW j).getD k 0) := by decide +kernel
theorem tzW_ln (j : Nat) : 2 ≤ (tzW j).length ∧ (tzW j).length ≤ 5 := by
  unfold tzW
  split <;> decide
/-- the text lies on the tape -/
def tzT (N : Nat → Nat) (b : Nat → Nat) (n : Nat) (m : XM) : Prop := N 1 = 600 ∧ n ≤ 600 ∧ (∀ k, k < n → b k < 256) ∧ gr m 2 4 = some 1 ∧ gi m 2 5 = zN n ∧ ∀ k, k < n → gi m 1 k = zN (b k)
/-- rows of tokens -/
def tzG (N : Nat → Nat) (m : XM) : Prop := (N 25 = 602 ∧ N 26 = 602 ∧ N 27 = 602) ∧ gr m 2 7 = some 25 ∧ gr m 2 8 = some 26 ∧ gr m 2 9 = some 27
section TC
variable {N : Nat → Nat} {b : Nat → Nat} {n : Nat} {m : XM}
theorem tzT_si {a j : Nat} {v : Int32} (h : tzT N b n m) (h1 : a ≠ 1) (h2 : ¬ (a = 2 ∧ j = 5)) : tzT N b n (si m a j v) :=
  ⟨h.1, h.2.1, h.2.2.1, h.2.2.2.1, by rw [gi_ne (by omega)]; exact h.2.2.2.2.1, fun k hk => by rw [gi_ne (by omega)]; exact h.2.2.2.2.2 k hk⟩
theorem tzG_si {a j : Nat} {v : Int32} (h : tzG N m) : tzG N (si m a j v) := h
theorem c_dig {a c : Nat} (hc : c < 2147483648) (m : XM) : fX1_isDigit N a (zN c) m = some (if 48 ≤ c ∧ c ≤ 57 then zN 1 else zN 0, m) := by
  unfold fX1_isDigit fX1_isDigit_16
  simp (disch := omega) only [zN_lit, zN_lt]
  by_cases h1 : c < 48
  · rw [if_pos h1, if_neg (show ¬ (48 ≤ c ∧ c ≤ 57) by omega)]
  · by_cases h2 : 57 < c
    · rw [if_neg h1, if_pos h2, if_neg (show ¬ (48 ≤ c ∧ c ≤ 57) by omega)]
    · rw [if_neg h1, if_neg h2, if_pos (show 48 ≤ c ∧ c ≤ 57 by omega)]
theorem c_sml {a c : Nat} (hc : c < 2147483648) (m : XM) : fX1_isSmall N a (zN c) m = some (if 97 ≤ c ∧ c ≤ 122 then zN 1 else zN 0, m) := by
  unfold fX1_isSmall fX1_isSmall_16
  simp (disch := omega) only [zN_lit, zN_lt]
  by_cases h1 : c < 97
  · rw [if_pos h1, if_neg (show ¬ (97 ≤ c ∧ c ≤ 122) by omega)]
  · by_cases h2 : 122 < c
    · rw [if_neg h1, if_pos h2, if_neg (show ¬ (97 ≤ c ∧ c ≤ 122) by omega)]
    · rw [if_neg h1, if_neg h2, if_pos (show 97 ≤ c ∧ c ≤ 122 by omega)]
theorem c_let {a c : Nat} (hc : c < 2147483648) (m : XM) : fX1_isLetter N a (zN c) m = some (if 97 ≤ c ∧ c ≤ 122 ∨ 65 ≤ c ∧ c ≤ 90 then zN 1 else zN 0, m) := by
  unfold fX1_isLetter fX1_isLetter_12 fX1_isLetter_24 fX1_isLetter_28
  simp (disch := omega) only [zN_lit, zN_lt, zN_le]
  by_cases h1 : c < 97
  · rw [if_pos h1]
    by_cases h2 : c < 65
    · rw [if_pos h2, if_neg (show ¬ (97 ≤ c ∧ c ≤ 122 ∨ 65 ≤ c ∧ c ≤ 90) by omega)]
    · rw [if_neg h2]
      by_cases h3 : 90 < c
      · rw [if_pos h3, if_neg (show ¬ (97 ≤ c ∧ c ≤ 122 ∨ 65 ≤ c ∧ c ≤ 90) by omega)]
      · rw [if_neg h3, if_pos (show 97 ≤ c ∧ c ≤ 122 ∨ 65 ≤ c ∧ c ≤ 90 by omega)]
  · rw [if_neg h1]
    by_cases h2 : c ≤ 122
    · rw [if_pos h2, if_pos (show 97 ≤ c ∧ c ≤ 122 ∨ 65 ≤ c ∧ c ≤ 90 by omega)]
    · rw [if_neg h2, if_neg (show ¬ c < 65 by omega), if_pos (show 90 < c by omega), if_neg (show ¬ (97 ≤ c ∧ c ≤ 122 ∨ 65 ≤ c ∧ c ≤ 90) by omega)]
theorem c_min {a c : Nat} (ha : a < 2147483648) (hc : c < 2147483648) (m : XM) : fJ9_min_7cf53 N (zN a) (zN c) m = some (zN (min a c), m) := by
  unfold fJ9_min_7cf53
  simp only [zN_lt hc ha]
  by_cases h : c < a
  · rw [if_pos h, Nat.min_eq_right (by omega)]
  · rw [if_neg h, Nat.min_eq_left (by omega)]
theorem c_alo (h : tzT N b n m) {p : Nat} (hp : p < n) : fX1_standsAlone N 2 (zN p) m = some (if tzL b n (p + 1) = 0 then zN 1 else zN 0, m) := by
  obtain ⟨h1, h2, h3, h4, h5, h6⟩ := h
  unfold fX1_standsAlone fX1_standsAlone_25
  simp (disch := omega) only [zv, zN_lit, zN_add, h5, zN_le]
  by_cases hq : n ≤ p + 1
  · rw [if_pos hq, if_pos (show tzL b n (p + 1) = 0 by unfold tzL; exact if_neg (by omega))]
  · have hb := h3 (p + 1) (by omega)
    rw [if_neg hq]
    simp (disch := omega) only [zgr h4, zald, h6, c_let, zca]
    unfold tzL
    by_cases hl : 97 ≤ b (p + 1) ∧ b (p + 1) ≤ 122 ∨ 65 ≤ b (p + 1) ∧ b (p + 1) ≤ 90
    · have e : p + 1 < n ∧ (97 ≤ b (p + 1) ∧ b (p + 1) ≤ 122 ∨ 65 ≤ b (p + 1) ∧ b (p + 1) ≤ 90) := ⟨by omega, hl⟩
      rw [if_pos hl, if_pos e]
      simp only [zN10, if_false, Nat.one_ne_zero]
    · have e : ¬ (p + 1 < n ∧ (97 ≤ b (p + 1) ∧ b (p + 1) ≤ 122 ∨ 65 ≤ b (p + 1) ∧ b (p + 1) ≤ 90)) := fun q => hl q.2
      rw [if_neg hl, if_neg e]
      simp only [if_true]
theorem c_num4 (h : tzT N b n m) {x1 : Int32} : ∀ (g f k v : Nat), n - k = g → g < f → v ≤ 1000 → k ≤ n → fX1_cutNumber_4 N f 2 x1 (zN v) (zN k) m = fX1_cutNumber_52 N 2 x1 (zN (tzd b n g k v)) (zN (tze b n 48 57 k)) m := by
  obtain ⟨h1, h2, h3, h4, h5, h6⟩ := h
  intro g
  induction g with
  | zero =>
    intro f k v hg hf hv hk
    obtain ⟨f, rfl⟩ : ∃ f', f = f' + 1 := ⟨f - 1, by omega⟩
    rw [fX1_cutNumber_4, tze_n (show ¬ (k < n ∧ 48 ≤ b k ∧ b k ≤ 57) by omega)]
    simp (disch := omega) only [zv, h5, zN_le]
    rw [if_pos (show n ≤ k by omega)]
    rfl
  | succ g ih =>
    intro f k v hg hf hv hk
    obtain ⟨f, rfl⟩ : ∃ f', f = f' + 1 := ⟨f - 1, by omega⟩
    have hb := h3 k (by omega)
    rw [fX1_cutNumber_4]
    simp (disch := omega) only [zv, h5, zN_le]
    rw [if_neg (show ¬ n ≤ k by omega)]
    simp (disch := omega) only [zgr h4, zald, h6, c_dig, zca, zN_lit]
    show _ = fX1_cutNumber_52 N 2 x1 (zN (if k < n ∧ 48 ≤ b k ∧ b k ≤ 57 then tzd b n g (k + 1) (min (v * 10 + b k - 48) 1000) else v)) _ m
    by_cases hd : 48 ≤ b k ∧ b k ≤ 57
    · have hd' : k < n ∧ 48 ≤ b k ∧ b k ≤ 57 := ⟨by omega, hd⟩
      rw [if_pos hd, if_pos hd', tze_y hd']
      simp (disch := omega) only [zN10, if_false, zN_mul, zN_add, zN_sub, c_min, zca]
      exact ih f (k + 1) (min (v * 10 + b k - 48) 1000) (by omega) (by omega) (Nat.min_le_right _ _) (by omega)
    · have hd' : ¬ (k < n ∧ 48 ≤ b k ∧ b k ≤ 57) := fun q => hd q.2
      rw [if_neg hd, if_neg hd', tze_n hd']
      simp only [if_true]
theorem c_wrd4 (h : tzT N b n m) {x1 : Int32} : ∀ (g f k : Nat), n - k = g → g < f → k ≤ n → fX1_cutWord_4 N f 2 x1 (zN k) m = fX1_cutWord_31 N 2 x1 (zN (tze b n 97 122 k)) m := by
  obtain ⟨h1, h2, h3, h4, h5, h6⟩ := h
  intro g
  induction g with
  | zero =>
    intro f k hg hf hk
    obtain ⟨f, rfl⟩ : ∃ f', f = f' + 1 := ⟨f - 1, by omega⟩
    rw [fX1_cutWord_4, tze_n (show ¬ (k < n ∧ 97 ≤ b k ∧ b k ≤ 122) by omega)]
    simp (disch := omega) only [zv, h5, zN_le]
    rw [if_pos (show n ≤ k by omega)]
  | succ g ih =>
    intro f k hg hf hk
    obtain ⟨f, rfl⟩ : ∃ f', f = f' + 1 := ⟨f - 1, by omega⟩
    have hb := h3 k (by omega)
    rw [fX1_cutWord_4]
    simp (disch := omega) only [zv, h5, zN_le]
    rw [if_neg (show ¬ n ≤ k by omega)]
    simp (disch := omega) only [zgr h4, zald, h6, c_sml, zca, zN_lit]
    by_cases hd : 97 ≤ b k ∧ b k ≤ 122
    · have hd' : k < n ∧ 97 ≤ b k ∧ b k ≤ 122 := ⟨by omega, hd⟩
      rw [if_pos hd, tze_y hd']
      simp (disch := omega) only [zN10, if_false, zN_add]
      exact ih f (k + 1) (by omega) (by omega) (by omega)
    · have hd' : ¬ (k < n ∧ 97 ≤ b k ∧ b k ≤ 122) := fun q => hd q.2
      rw [if_neg hd, tze_n hd']
      simp only [if_true]
theorem c_sp15 (h : tzT N b n m) {j p : Nat} (hj : j < 8) (hp : p + (tzW j).length ≤ n) : ∀ (w : List Nat) (f k : Nat), k + w.length = (tzW j).length → (tzW j).drop k = w → w.length < f → (tzm b w (p + k) → fX1_spells_15 N f 2 j (zN p) (zN k) m = some (zN 1, m)) ∧ (¬ tzm b w (p + k) → fX1_spells_15 N f 2 j (zN p) (zN k) m = some (zN 0, m)) := by
  obtain ⟨h1, h2, h3, h4, h5, h6⟩ := h
  have hln := tzW_ln j
  have hl := (c_wl j hj).1
  intro w
  induction w with
  | nil =>
    intro f k hk hd hf
    obtain ⟨f, rfl⟩ : ∃ f', f = f' + 1 := ⟨f - 1, by omega⟩
    have hk' : k = (tzW j).length := by simpa using hk
    have e : fX1_spells_15 N (f + 1) 2 j (zN p) (zN k) m = some (zN 1, m) := by
      rw [fX1_spells_15]
      simp (disch := omega) only [zv, fJ0_length_8abf5, hl, zN_of, zca, zN_le, zN_lit]
      rw [if_pos (show (tzW j).length ≤ k by omega)]
    exact ⟨fun _ => e, fun q => absurd trivial q⟩
  | cons c w ih =>
    intro f k hk hd hf
    have hk' : k + (w.length + 1) = (tzW j).length := hk
    have hf' : w.length + 1 < f := hf
    obtain ⟨f, rfl⟩ : ∃ f', f = f' + 1 := ⟨f - 1, by omega⟩
    obtain ⟨d1, d2⟩ := tz_drop _ _ _ _ hd
    have hc := (c_wc j hj k (by omega)).1
    rw [d1] at hc
    have hcs := tzW_sm j c (by rw [← List.take_append_drop k (tzW j), hd]; simp)
    have hb := h3 (p + k) (by omega)
    have hin : xin (zN k) (xslen.getD j 0) := by rw [zN_in (by omega), hl]; omega
    have e : fX1_spells_15 N (f + 1) 2 j (zN p) (zN k) m = if b (p + k) = c then fX1_spells_15 N f 2 j (zN p) (zN (k + 1)) m else some (zN 0, m) := by
      rw [fX1_spells_15]
      simp (disch := omega) only [zv, fJ0_length_8abf5, hl, zN_of, zca, zN_le, zN_lit]
      rw [if_neg (show ¬ (tzW j).length ≤ k by omega)]
      simp (disch := omega) only [zgr h4, zN_add, zald, h6, fJ0_charAt_5068e]
      rw [if_pos hin, hc, zca]
      simp (disch := omega) only [zN_eq]
    obtain ⟨i1, i2⟩ := ih f (k + 1) (by omega) d2 (by omega)
    rw [e]
    refine ⟨fun q => ?_, fun q => ?_⟩
    · obtain ⟨q1, q2⟩ : b (p + k) = c ∧ tzm b w (p + k + 1) := q
      rw [if_pos q1]
      exact i1 q2
    · by_cases q1 : b (p + k) = c
      · rw [if_pos q1]
        exact i2 (fun q2 => q ⟨q1, q2⟩)
      · rw [if_neg q1]
theorem c_spl (h : tzT N b n m) {j p e : Nat} (hj : j < 8) (hp : p ≤ e) (he : e ≤ n) : (e = p + (tzW j).length ∧ tzm b (tzW j) p → fX1_spells N 2 j (zN p) (zN e) m = some (zN 1, m)) ∧ (¬ (e = p + (tzW j).length ∧ tzm b (tzW j) p) → fX1_spells N 2 j (zN p) (zN e) m = some (zN 0, m)) := by
  have hln := tzW_ln j
  have hl := (c_wl j hj).1
  have hn := h.2.1
  have hX := zXF
  have e1 : fX1_spells N 2 j (zN p) (zN e) m = if e - p = (tzW j).length then fX1_spells_15 N XF 2 j (zN p) (zN 0) m else some (zN 0, m) := by
    unfold fX1_spells
    simp (disch := omega) only [zv, zN_sub, fJ0_length_8abf5, hl, zN_of, zca, zN_eq, zN_lit]
  rw [e1]
  by_cases q : e - p = (tzW j).length
  · rw [if_pos q]
    obtain ⟨i1, i2⟩ := c_sp15 h hj (show p + (tzW j).length ≤ n by omega) (tzW j) XF 0 (by omega) rfl (by omega)
    refine ⟨fun r => i1 r.2, fun r => i2 (fun s => r ⟨by omega, s⟩)⟩
  · rw [if_neg q]
    exact ⟨fun r => absurd r.1 (by omega), fun _ => rfl⟩
theorem c_wk (h : tzT N b n m) {p e : Nat} (hp : p ≤ e) (he : e ≤ n) : fX1_wordKind N 2 (zN p) (zN e) m = some (zN (tzw b p e), m) := by
  have s0 := c_spl h (j := 0) (by omega) hp he
  have s1 := c_spl h (j := 1) (by omega) hp he
  have s2 := c_spl h (j := 2) (by omega) hp he
  have s3 := c_spl h (j := 3) (by omega) hp he
  have s4 := c_spl h (j := 4) (by omega) hp he
  have s5 := c_spl h (j := 5) (by omega) hp he
  have s6 := c_spl h (j := 6) (by omega) hp he
  have s7 := c_spl h (j := 7) (by omega) hp he
  simp only [tzW, tzm, List.length_cons, List.length_nil, and_true, Nat.add_assoc, Nat.reduceAdd] at s0 s1 s2 s3 s4 s5 s6 s7
  unfold tzw fX1_wordKind
  by_cases h0 : e = p + 4 ∧ b p = 117 ∧ b (p + 1) = 110 ∧ b (p + 2) = 105 ∧ b (p + 3) = 116
  · rw [if_pos h0, s0.1 h0]; simp only [zca, zN_lit, zN10, if_false]
  rw [if_neg h0, s0.2 h0]; simp only [zca, zN_lit, if_true]
  by_cases h1 : e = p + 4 ∧ b p = 109 ∧ b (p + 1) = 97 ∧ b (p + 2) = 105 ∧ b (p + 3) = 110
  · rw [if_pos h1, s1.1 h1]; simp only [zca, zN10, if_false]
  rw [if_neg h1, s1.2 h1]; simp only [zca, if_true]
  by_cases h2 : e = p + 5 ∧ b p = 99 ∧ b (p + 1) = 111 ∧ b (p + 2) = 110 ∧ b (p + 3) = 115 ∧ b (p + 4) = 116
  · rw [if_pos h2, s2.1 h2]; simp only [zca, zN10, if_false]
  rw [if_neg h2, s2.2 h2]; simp only [zca, if_true]
  by_cases h3 : e = p + 3 ∧ b p = 118 ∧ b (p + 1) = 97 ∧ b (p + 2) = 114
  · rw [if_pos h3, s3.1 h3]; simp only [zca, zN10, if_false]
  rw [if_neg h3, s3.2 h3]; simp only [zca, if_true]
  by_cases h4 : e = p + 2 ∧ b p = 100 ∧ b (p + 1) = 111
  · rw [if_pos h4, s4.1 h4]; simp only [zca, zN10, if_false]
  rw [if_neg h4, s4.2 h4]; simp only [zca, if_true]
  by_cases h5 : e = p + 3 ∧ b p = 102 ∧ b (p + 1) = 117 ∧ b (p + 2) = 110
  · rw [if_pos h5, s5.1 h5]; simp only [zca, zN10, if_false]
  rw [if_neg h5, s5.2 h5]; simp only [zca, if_true]
  by_cases h6 : e = p + 4 ∧ b p = 103 ∧ b (p + 1) = 105 ∧ b (p + 2) = 118 ∧ b (p + 3) = 101
  · rw [if_pos h6, s6.1 h6]; simp only [zca, zN10, if_false]
  rw [if_neg h6, s6.2 h6]; simp only [zca, if_true]
  by_cases h7 : e = p + 4 ∧ b p = 102 ∧ b (p + 1) = 97 ∧ b (p + 2) = 105 ∧ b (p + 3) = 108
  · rw [if_pos h7, s7.1 h7]; simp only [zca, zN10, if_false]
  rw [if_neg h7, s7.2 h7]; simp only [zca, if_true]
/-- a token is put behind the others -/
def tzput (m : XM) (t : Nat) (k p v : Int32) : XM := si (si (si (si m 25 t k) 26 t p) 27 t v) 2 6 (zN (t + 1))
theorem c_put (h : tzG N m) {t : Nat} (ht : gi m 2 6 = zN t) (h6 : t < 602) (k p v : Int32) : fX1_putToken N 2 k p v m = some (tzput m t k p v) := by
  obtain ⟨⟨n1, n2, n3⟩, g1, g2, g3⟩ := h
  unfold fX1_putToken
  simp (disch := omega) only [zv, zgr g1, zN_of, n1, ht, zN_le]
  rw [if_neg (show ¬ 602 ≤ t by omega)]
  simp (disch := omega) only [zast, gi_ne, ht, zgr_si, zgr g2, zgr g3, zN_lit, zN_add]
  rfl
theorem c_tok (h : tzT N b n m) (hG : tzG N m) {p t : Nat} (hp : p < n) (ht : gi m 2 6 = zN t) (h6 : t < 602) : ∃ v, fX1_cutToken N 2 (zN p) m = some (zN (tzn b n p), tzput m t (zN (tzk b n p)) (zN p) v) ∧ (tzk b n p = 257 ∨ tzk b n p = 258 ∨ tzk b n p = 259 → v = zN (tzq b n p)) := by
  have hT := h
  obtain ⟨h1, h2, h3, h4, h5, h6'⟩ := h
  have hb := h3 p hp
  have hX := zXF
  unfold fX1_cutToken
  simp (disch := omega) only [zgr h4, zald, h6', c_dig, zca, zN_lit]
  have hnp : ¬ n ≤ p := by omega
  by_cases hd : 48 ≤ b p ∧ b p ≤ 57
  · have ek : tzk b n p = 259 := (tzk_dg h3).2 ⟨hp, hd⟩
    have en : tzn b n p = tze b n 48 57 p := if_pos hd
    have eq : tzq b n p = tzd b n (n - p) p 0 := if_pos hd
    rw [if_pos hd]
    simp only [zN10, if_false]
    refine ⟨zN (tzq b n p), ?_, fun _ => rfl⟩
    unfold fX1_cutNumber
    simp only [zN_lit]
    rw [c_num4 hT (n - p) XF p 0 rfl (by omega) (by omega) (by omega)]
    unfold fX1_cutNumber_52
    simp only [zN_lit]
    rw [c_put hG ht h6, zcv, zca, ek, en, eq]
  · rw [if_neg hd]
    simp (disch := omega) only [if_true, c_sml, zca]
    by_cases hs : 97 ≤ b p ∧ b p ≤ 122
    · have hs' : p < n ∧ 97 ≤ b p ∧ b p ≤ 122 := ⟨hp, hs⟩
      have en : tzn b n p = tze b n 97 122 p := by unfold tzn; rw [if_neg hd, if_pos hs]
      have eq : tzq b n p = b p - 97 := by unfold tzq; rw [if_neg hd, if_pos hs]
      rw [if_pos hs]
      simp only [zN10, if_false]
      unfold fX1_cutWord
      simp only [zv, zN_lit, zN_add]
      rw [c_wrd4 hT (n - (p + 1)) XF (p + 1) rfl (by omega) (by omega), ← tze_y hs']
      have hgt := tze_gt hs'
      have hle := tze_le (b := b) (lo := 97) (hi := 122) (show p ≤ n by omega)
      unfold fX1_cutWord_31
      simp (disch := omega) only [zv, zN_lit, zN_add, zN_le]
      by_cases hw : tze b n 97 122 p ≤ p + 1
      · rw [if_pos hw, c_alo hT hp]
        have ek : tzk b n p = if tzL b n (p + 1) = 1 then 256 else 258 := by
          unfold tzk
          rw [if_neg hnp, if_neg hd, if_pos hs, if_neg (show ¬ p + 1 < tze b n 97 122 p by omega)]
        have hL := tzL_le (b := b) (n := n) (p + 1)
        refine ⟨zN (b p - 97), ?_, fun _ => by rw [eq]⟩
        simp only [zca]
        unfold fX1_cutWord_71
        by_cases hl : tzL b n (p + 1) = 0
        · rw [if_pos hl]
          simp (disch := omega) only [zN10, if_false, zgr h4, zald, h6', zv, zN_lit, zN_sub]
          rw [c_put hG ht h6, zcv, ek, if_neg (show ¬ tzL b n (p + 1) = 1 by omega), en, zca]
        · rw [if_neg hl]
          simp (disch := omega) only [if_true, zgr h4, zald, h6', zv, zN_lit, zN_sub]
          rw [c_put hG ht h6, zcv, ek, if_pos (show tzL b n (p + 1) = 1 by omega), en, zca]
      · rw [if_neg hw, c_wk hT (by omega) hle]
        have ek : tzk b n p = tzw b p (tze b n 97 122 p) := by
          unfold tzk
          rw [if_neg hnp, if_neg hd, if_pos hs, if_pos (show p + 1 < tze b n 97 122 p by omega)]
        refine ⟨zN 0, ?_, fun q => ?_⟩
        · simp only [zca]
          rw [c_put hG ht h6, zcv, ek, en, zca]
        · have : tzw b p (tze b n 97 122 p) ≠ 257 ∧ tzw b p (tze b n 97 122 p) ≠ 258 ∧ tzw b p (tze b n 97 122 p) ≠ 259 := by
            unfold tzw
            repeat' split
            all_goals omega
          rw [ek] at q
          omega
    · rw [if_neg hs]
      have en : tzn b n p = p + 1 := by unfold tzn; rw [if_neg hd, if_neg hs]
      have eq : tzq b n p = b p - 65 := by unfold tzq; rw [if_neg hd, if_neg hs]
      simp (disch := omega) only [if_true, c_let, zca]
      unfold fX1_cutToken_64 fX1_cutToken_67 fX1_cutToken_85
      by_cases hg : 65 ≤ b p ∧ b p ≤ 90
      · rw [if_pos (show 97 ≤ b p ∧ b p ≤ 122 ∨ 65 ≤ b p ∧ b p ≤ 90 from Or.inr hg)]
        simp (disch := omega) only [zN10, if_false, zN_lt, zv, zN_lit, zN_sub]
        have ek : tzk b n p = if b p ≤ 71 ∧ tzL b n (p + 1) = 0 then 257 else 256 := by
          unfold tzk
          rw [if_neg hnp, if_neg hd, if_neg hs, if_pos hg]
        refine ⟨zN (b p - 65), ?_, fun _ => by rw [eq]⟩
        by_cases h71 : 71 < b p
        · rw [if_pos h71, c_put hG ht h6, zcv, ek, if_neg (show ¬ (b p ≤ 71 ∧ tzL b n (p + 1) = 0) by omega), en, zN_add]
        · rw [if_neg h71, c_alo hT hp]
          simp only [zca]
          by_cases hl : tzL b n (p + 1) = 0
          · rw [if_pos hl]
            simp only [zN10, if_false]
            rw [c_put hG ht h6, zcv, ek, if_pos (show b p ≤ 71 ∧ tzL b n (p + 1) = 0 by omega), en, zN_add]
          · rw [if_neg hl]
            simp only [if_true]
            rw [c_put hG ht h6, zcv, ek, if_neg (show ¬ (b p ≤ 71 ∧ tzL b n (p + 1) = 0) by omega), en, zN_add]
      · rw [if_neg (show ¬ (97 ≤ b p ∧ b p ≤ 122 ∨ 65 ≤ b p ∧ b p ≤ 90) by omega)]
        have ek : tzk b n p = b p := by
          unfold tzk
          rw [if_neg hnp, if_neg hd, if_neg hs, if_neg hg]
        refine ⟨zN 0, ?_, fun q => by rw [ek] at q; omega⟩
        simp only [if_true, zv, zN_lit]
        rw [c_put hG ht h6, zcv, ek, en, zN_add]
end TC
