/-! ===== t: the other reader, byte by byte ===== -/
def tzB (b : Nat → Nat) (n p : Nat) : Int32 := if p < n then zN (b p) else zM
def tzR (N : Nat → Nat) (b : Nat → Nat) (n : Nat) (m : XM) : Prop := N 87 = 600 ∧ n ≤ 600 ∧ (∀ k, k < n → b k < 256) ∧ gr m 85 8 = some 87 ∧ gi m 85 3 = zN n ∧ ∀ k, k < n → gi m 87 k = zN (b k)
/-- it stands ahead of token i, and there is no fault -/
def rS (N : Nat → Nat) (b : Nat → Nat) (n i : Nat) (m : XM) : Prop := tzR N b n m ∧ gi m 85 6 = zN 0 ∧ tzo b n i ∧ ∃ q, gi m 85 4 = zN q ∧ (q ≤ n ∧ gi m 85 7 = zM) ∧ tzb b n q = tzp b n i
def rF (m m' : XM) : Prop := (∀ a k, ¬ (a = 85 ∧ k = 4) → gi m' a k = gi m a k) ∧ (∀ a k, gr m' a k = gr m a k) ∧ ∀ a k, gl m' a k = gl m a k
/-- a fault, and where -/
def rX (f p : Nat) (m : XM) : Prop := gi m 85 6 = zN f ∧ gi m 85 7 = zN p ∧ 0 < f ∧ f < 10
def rE (m m' : XM) : Prop := (∀ a k, ¬ (a = 85 ∧ (k = 4 ∨ k = 6 ∨ k = 7 ∨ k = 17)) → gi m' a k = gi m a k) ∧ (∀ a k, gr m' a k = gr m a k) ∧ ∀ a k, gl m' a k = gl m a k
theorem rF_rf (m : XM) : rF m m := ⟨fun _ _ _ => rfl, fun _ _ => rfl, fun _ _ => rfl⟩
theorem rE_rf (m : XM) : rE m m := ⟨fun _ _ _ => rfl, fun _ _ => rfl, fun _ _ => rfl⟩
theorem rF_tr {m m1 m2 : XM} (h : rF m m1) (g : rF m1 m2) : rF m m2 := ⟨fun a k q => (g.1 a k q).trans (h.1 a k q), fun a k => (g.2.1 a k).trans (h.2.1 a k), fun a k => (g.2.2 a k).trans (h.2.2 a k)⟩
theorem rE_tr {m m1 m2 : XM} (h : rE m m1) (g : rE m1 m2) : rE m m2 := ⟨fun a k q => (g.1 a k q).trans (h.1 a k q), fun a k => (g.2.1 a k).trans (h.2.1 a k), fun a k => (g.2.2 a k).trans (h.2.2 a k)⟩
theorem rF_E {m m1 : XM} (h : rF m m1) : rE m m1 := ⟨fun a k q => h.1 a k (by omega), h.2.1, h.2.2⟩
theorem rF_si {m : XM} {v : Int32} : rF m (si m 85 4 v) := ⟨fun a k q => gi_ne (by omega), fun _ _ => rfl, fun _ _ => rfl⟩
theorem rE_si {m m1 : XM} {k : Nat} {v : Int32} (h : rE m m1) (hk : k = 4 ∨ k = 6 ∨ k = 7 ∨ k = 17) : rE m (si m1 85 k v) := rE_tr h ⟨fun a j q => gi_ne (by omega), fun _ _ => rfl, fun _ _ => rfl⟩
section TE
variable {N : Nat → Nat} {b : Nat → Nat} {n i : Nat} {m m' : XM}
theorem tzR_E (h : tzR N b n m) (g : rE m m') : tzR N b n m' := ⟨h.1, h.2.1, h.2.2.1, by rw [g.2.1]; exact h.2.2.2.1, by rw [g.1 _ _ (by omega)]; exact h.2.2.2.2.1, fun k hk => by rw [g.1 _ _ (by omega)]; exact h.2.2.2.2.2 k hk⟩
theorem rS_mk (h : rS N b n i m) (g : rF m m') {j q : Nat} (h4 : gi m' 85 4 = zN q) (hq : q ≤ n) (hj : tzo b n j) (hb : tzb b n q = tzp b n j) : rS N b n j m' :=
  ⟨tzR_E h.1 (rF_E g), by rw [g.1 _ _ (by omega)]; exact h.2.1, hj, q, h4, ⟨hq, by
    obtain ⟨q0, -, ⟨-, h7⟩, -⟩ := h.2.2.2
    rw [g.1 _ _ (by omega)]; exact h7⟩, hb⟩
theorem r_byt (h : tzR N b n m) {k : Nat} (hk : k < 2147483648) : fX9_byteAt N 85 (zN k) m = some (tzB b n k, m) := by
  obtain ⟨h1, h2, h3, h4, h5, h6⟩ := h
  unfold fX9_byteAt tzB
  simp (disch := omega) only [zv, h5, zN_lt]
  by_cases q : k < n
  · rw [if_pos q, if_pos q]
    simp (disch := omega) only [zgr h4, zald, h6]
  · rw [if_neg q, if_neg q]
    rfl
theorem tzB_32 {k : Nat} (hb : ∀ k, k < n → b k < 256) : (tzB b n k = zN 32) = (k < n ∧ b k = 32) := by
  unfold tzB
  by_cases q : k < n
  · have := hb k q
    rw [if_pos q, zN_eq (by omega) (by omega)]
    exact propext ⟨fun h => ⟨q, h⟩, fun h => h.2⟩
  · rw [if_neg q, zm_N (by omega)]
    exact propext ⟨fun h => h.elim, fun h => absurd h.1 q⟩
theorem tzB_c {k c : Nat} (hb : ∀ k, k < n → b k < 256) (hc : c < 2147483648) : (tzB b n k = zN c) = (k < n ∧ b k = c) := by
  unfold tzB
  by_cases q : k < n
  · have := hb k q
    rw [if_pos q, zN_eq (by omega) (by omega)]
    exact propext ⟨fun h => ⟨q, h⟩, fun h => h.2⟩
  · rw [if_neg q, zm_N (by omega)]
    exact propext ⟨fun h => h.elim, fun h => absurd h.1 q⟩
theorem r_here0 : ∀ (g f q : Nat) (m : XM), n - q = g → g < f → tzR N b n m → gi m 85 4 = zN q → q ≤ n → ∃ m', fX9_here_0 N f 85 m = some (tzB b n (tzb b n q), m') ∧ rF m m' ∧ gi m' 85 4 = zN (tzb b n q) := by
  intro g
  induction g with
  | zero =>
    intro f q m hg hf hR h4 hq
    obtain ⟨f, rfl⟩ : ∃ f', f = f' + 1 := ⟨f - 1, by omega⟩
    have hn := hR.2.1
    have hb := hR.2.2.1
    have e : ¬ (q < n ∧ b q = 32) := by omega
    refine ⟨m, ?_, rF_rf m, by rw [tzb_n e]; exact h4⟩
    rw [fX9_here_0, tzb_n e]
    simp (disch := omega) only [zv, h4, r_byt hR, zca, zN_lit, tzB_32 hb, e, if_false]
  | succ g ih =>
    intro f q m hg hf hR h4 hq
    obtain ⟨f, rfl⟩ : ∃ f', f = f' + 1 := ⟨f - 1, by omega⟩
    have hn := hR.2.1
    have hb := hR.2.2.1
    by_cases e : q < n ∧ b q = 32
    · obtain ⟨m', a1, a2, a3⟩ := ih f (q + 1) (si m 85 4 (zN (q + 1))) (by omega) (by omega) (tzR_E hR (rF_E rF_si)) (gi_si _ _ _ _) (by omega)
      rw [tzb_y e.1 e.2]
      refine ⟨m', ?_, rF_tr rF_si a2, a3⟩
      rw [fX9_here_0]
      simp (disch := omega) only [zv, h4, r_byt hR, zca, zN_lit, tzB_32 hb, e, and_self, if_true, zN_add]
      exact a1
    · refine ⟨m, ?_, rF_rf m, by rw [tzb_n e]; exact h4⟩
      rw [fX9_here_0, tzb_n e]
      simp (disch := omega) only [zv, h4, r_byt hR, zca, zN_lit, tzB_32 hb, e, if_false]
theorem r_here (h : rS N b n i m) : ∃ m', fX9_here N 85 m = some (tzB b n (tzp b n i), m') ∧ rS N b n i m' ∧ gi m' 85 4 = zN (tzp b n i) ∧ rF m m' := by
  obtain ⟨hR, h6, ho, q, h4, hq, hb⟩ := id h
  have hX := zXF
  have hn := hR.2.1
  have hq1 := hq.1
  obtain ⟨m', a1, a2, a3⟩ := r_here0 (n - q) XF q m rfl (by omega) hR h4 hq1
  rw [hb] at a1 a3
  have := (tzo_le ho).2
  exact ⟨m', a1, rS_mk h a2 a3 this ho (tzp_b i), a3, a2⟩
/-- past token i -/
theorem rS_s (h : rS N b n i m) (hp : tzp b n i < n) : rS N b n (i + 1) (si m 85 4 (zN (tzn b n (tzp b n i)))) :=
  rS_mk h rF_si (gi_si _ _ _ _) (tzn_le hp) (tzo_s h.2.2.1 hp) rfl
theorem r_fine (h : rS N b n i m) : fX9_fine N 85 m = some (zN 1, m) := by
  unfold fX9_fine
  simp only [zv, h.2.1, zN_lit, if_true]
theorem r_dead {f p : Nat} (h : rX f p m) : fX9_fine N 85 m = some (zN 0, m) := by
  obtain ⟨h1, h2, h3, h4⟩ := h
  unfold fX9_fine
  have : ¬ f = 0 := by omega
  simp (disch := omega) only [zv, h1, zN_lit, zN_eq, this, if_false]
theorem r_wrong {f p : Nat} (h6 : gi m 85 6 = zN 0) (hf : 0 < f) (hf2 : f < 10) : ∃ m', fX9_wrong N 85 (zN f) (zN p) m = some (zM, m') ∧ rX f p m' ∧ rE m m' := by
  refine ⟨si (si m 85 6 (zN f)) 85 7 (zN p), ?_, ⟨by rw [gi_ne (by omega), gi_si], gi_si _ _ _ _, hf, hf2⟩, rE_si (rE_si (rE_rf m) (by omega)) (by omega)⟩
  unfold fX9_wrong
  simp only [zv, h6, zN_lit, if_true, zneg]
theorem tz_sg {c : Nat} (hc : c < 48 ∨ 57 < c ∧ c < 65 ∨ 90 < c ∧ c < 97 ∨ 122 < c ∧ c < 256) (hb : ∀ k, k < n → b k < 256) {p : Nat} (hk : tzk b n p = c) : p < n ∧ b p = c ∧ tzn b n p = p + 1 := by
  obtain ⟨h1, h2⟩ := (tzk_sg hb hc).1 hk
  refine ⟨h1, h2, ?_⟩
  unfold tzn
  rw [if_neg (by omega), if_neg (by omega)]
theorem r_sg_y (h : rS N b n i m) {c : Nat} (hc : c < 48 ∨ 57 < c ∧ c < 65 ∨ 90 < c ∧ c < 97 ∨ 122 < c ∧ c < 256) (hk : tzk b n (tzp b n i) = c) : ∃ m', fX9_takesSign N 85 (zN c) m = some (zN 1, m') ∧ rS N b n (i + 1) m' ∧ rF m m' := by
  have hb := h.1.2.2.1
  obtain ⟨p1, p2, p3⟩ := tz_sg hc hb hk
  obtain ⟨m1, a1, a2, a3, a4⟩ := r_here h
  have := rS_s a2 p1
  rw [p3] at this
  refine ⟨_, ?_, this, rF_tr a4 rF_si⟩
  unfold fX9_takesSign
  rw [r_fine h]
  simp only [zca, zN_lit, zN10, if_false, a1, zv]
  simp (disch := omega) only [tzB_c hb, p1, p2, and_self, if_true, a3, zN_add]
theorem r_sg_n (h : rS N b n i m) {c : Nat} (hc : c < 48 ∨ 57 < c ∧ c < 65 ∨ 90 < c ∧ c < 97 ∨ 122 < c ∧ c < 256) (hk : ¬ tzk b n (tzp b n i) = c) : ∃ m', fX9_takesSign N 85 (zN c) m = some (zN 0, m') ∧ rS N b n i m' ∧ gi m' 85 4 = zN (tzp b n i) ∧ rF m m' := by
  have hb := h.1.2.2.1
  obtain ⟨m1, a1, a2, a3, a4⟩ := r_here h
  refine ⟨m1, ?_, a2, a3, a4⟩
  have hne : ¬ (tzp b n i < n ∧ b (tzp b n i) = c) := fun q => hk ((tzk_sg hb hc).2 q)
  unfold fX9_takesSign
  rw [r_fine h]
  simp only [zca, zN_lit, zN10, if_false, a1, zv]
  simp (disch := omega) only [tzB_c hb, hne, if_false]
theorem r_sg_d {f p : Nat} (h : rX f p m) (c : Int32) : fX9_takesSign N 85 c m = some (zN 0, m) := by
  unfold fX9_takesSign
  rw [r_dead h]
  simp only [zca, zN_lit, if_true]
theorem r_mu_y (h : rS N b n i m) {c : Nat} (hc : c < 48 ∨ 57 < c ∧ c < 65 ∨ 90 < c ∧ c < 97 ∨ 122 < c ∧ c < 256) (hk : tzk b n (tzp b n i) = c) : ∃ m', fX9_must N 85 (zN c) m = some m' ∧ rS N b n (i + 1) m' ∧ rF m m' := by
  obtain ⟨m', a1, a2, a3⟩ := r_sg_y h hc hk
  refine ⟨m', ?_, a2, a3⟩
  unfold fX9_must
  rw [r_fine h]
  simp only [zca, zN_lit, zN10, if_false, a1]
theorem r_mu_n (h : rS N b n i m) {c : Nat} (hc : c < 48 ∨ 57 < c ∧ c < 65 ∨ 90 < c ∧ c < 97 ∨ 122 < c ∧ c < 256) (hk : ¬ tzk b n (tzp b n i) = c) : ∃ m', fX9_must N 85 (zN c) m = some m' ∧ rX 1 (tzp b n i) m' ∧ rE m m' := by
  obtain ⟨m1, a1, a2, a3, a4⟩ := r_sg_n h hc hk
  obtain ⟨m2, b1, b2, b3⟩ := r_wrong (N := N) (m := m1) (f := 1) (p := tzp b n i) a2.2.1 (by omega) (by omega)
  refine ⟨m2, ?_, b2, rE_tr (rF_E a4) b3⟩
  unfold fX9_must
  rw [r_fine h]
  simp only [zca, zN_lit, zN10, if_false, a1, if_true, zv, a3, b1]
theorem r_mu_d {f p : Nat} (h : rX f p m) (c : Int32) : fX9_must N 85 c m = some m := by
  unfold fX9_must
  rw [r_dead h]
  simp only [zca, zN_lit, if_true]
theorem r_sml {k : Nat} (hb : ∀ k, k < n → b k < 256) : fX9_isSmall N (tzB b n k) m = some (if k < n ∧ 97 ≤ b k ∧ b k ≤ 122 then zN 1 else zN 0, m) := by
  unfold fX9_isSmall fX9_isSmall_16 tzB
  simp only [zN_lit]
  by_cases q : k < n
  · have := hb k q
    simp only [q, if_true, true_and]
    simp (disch := omega) only [zN_lt]
    by_cases h1 : b k < 97
    · rw [if_pos h1, if_neg (show ¬ (97 ≤ b k ∧ b k ≤ 122) by omega)]
    · by_cases h2 : 122 < b k
      · rw [if_neg h1, if_pos h2, if_neg (show ¬ (97 ≤ b k ∧ b k ≤ 122) by omega)]
      · rw [if_neg h1, if_neg h2, if_pos (show 97 ≤ b k ∧ b k ≤ 122 by omega)]
  · simp only [q, if_false, false_and]
    simp (disch := omega) only [zm_lt, if_true]
theorem r_big {k : Nat} (hb : ∀ k, k < n → b k < 256) : fX9_isBig N (tzB b n k) m = some (if k < n ∧ 65 ≤ b k ∧ b k ≤ 90 then zN 1 else zN 0, m) := by
  unfold fX9_isBig fX9_isBig_16 tzB
  simp only [zN_lit]
  by_cases q : k < n
  · have := hb k q
    simp only [q, if_true, true_and]
    simp (disch := omega) only [zN_lt]
    by_cases h1 : b k < 65
    · rw [if_pos h1, if_neg (show ¬ (65 ≤ b k ∧ b k ≤ 90) by omega)]
    · by_cases h2 : 90 < b k
      · rw [if_neg h1, if_pos h2, if_neg (show ¬ (65 ≤ b k ∧ b k ≤ 90) by omega)]
      · rw [if_neg h1, if_neg h2, if_pos (show 65 ≤ b k ∧ b k ≤ 90 by omega)]
  · simp only [q, if_false, false_and]
    simp (disch := omega) only [zm_lt, if_true]
theorem r_dig {k : Nat} (hb : ∀ k, k < n → b k < 256) : fX9_isDigit N (tzB b n k) m = some (if k < n ∧ 48 ≤ b k ∧ b k ≤ 57 then zN 1 else zN 0, m) := by
  unfold fX9_isDigit fX9_isDigit_16 tzB
  simp only [zN_lit]
  by_cases q : k < n
  · have := hb k q
    simp only [q, if_true, true_and]
    simp (disch := omega) only [zN_lt]
    by_cases h1 : b k < 48
    · rw [if_pos h1, if_neg (show ¬ (48 ≤ b k ∧ b k ≤ 57) by omega)]
    · by_cases h2 : 57 < b k
      · rw [if_neg h1, if_pos h2, if_neg (show ¬ (48 ≤ b k ∧ b k ≤ 57) by omega)]
      · rw [if_neg h1, if_neg h2, if_pos (show 48 ≤ b k ∧ b k ≤ 57 by omega)]
  · simp only [q, if_false, false_and]
    simp (disch := omega) only [zm_lt, if_true]
theorem r_in {k lo hi : Nat} (hb : ∀ k, k < n → b k < 256) (hl : lo < 2147483648) (hh : hi < 2147483648) : fX9_in N (tzB b n k) (zN lo) (zN hi) m = some (if k < n ∧ lo ≤ b k ∧ b k ≤ hi then zN 1 else zN 0, m) := by
  unfold fX9_in fX9_in_14 tzB
  by_cases q : k < n
  · have := hb k q
    simp only [q, if_true, true_and]
    simp (disch := omega) only [zN_lt, zN_lit]
    by_cases h1 : b k < lo
    · rw [if_pos h1, if_neg (show ¬ (lo ≤ b k ∧ b k ≤ hi) by omega)]
    · rw [if_neg h1]
      by_cases h2 : hi < b k
      · rw [if_pos h2, if_neg (show ¬ (lo ≤ b k ∧ b k ≤ hi) by omega)]
      · rw [if_neg h2, if_pos (show lo ≤ b k ∧ b k ≤ hi by omega)]
  · simp only [q, if_false, false_and]
    simp (disch := omega) only [zm_lt, if_true, zN_lit]
end TE
