/-! ===== w: the fewest surprises ===== -/
theorem zC_mem {n : Nat} : ∀ (k M : Nat) (us vs : List Nat), vs ∈ zC n k M us → vs.length = us.length + k ∧ ∀ u ∈ vs, u ∈ us ∨ u < n
  | 0, M, us, vs, h => by
    rw [List.mem_singleton.mp h]
    exact ⟨rfl, fun u hu => Or.inl hu⟩
  | k + 1, M, us, vs, h => by
    obtain ⟨u, -, h2, h3⟩ := zcat_mem _ _ h
    by_cases e : M / 2 ^ u % 2 = 0
    · rw [if_pos e] at h3
      obtain ⟨g1, g2⟩ := zC_mem k _ _ _ h3
      refine ⟨by rw [g1]; simp; omega, fun v hv => ?_⟩
      rcases g2 v hv with g | g
      · rcases List.mem_append.mp g with g' | g'
        · exact Or.inl g'
        · rw [List.mem_singleton.mp g']; exact Or.inr (by omega)
      · exact Or.inr g
    · rw [if_neg e] at h3; cases h3
/-- what the search of the reference may change -/
def yfn (m m' : XM) : Prop := (∀ a k, a < 85 ∨ (85 < a ∧ a < 94) ∨ 106 ≤ a → a ≠ 108 → gi m' a k = gi m a k) ∧ (∀ k, k < 27 ∨ 38 ≤ k → k ≠ 16 → k ≠ 41 → gi m' 85 k = gi m 85 k) ∧ (∀ a k, gl m' a k = gl m a k) ∧ ∀ a k, gr m' a k = gr m a k
theorem yfn_z {m m' : XM} (h : yfz m m') : yfn m m' := ⟨fun a k q _ => h.1 a k q, h.2⟩
theorem yfn_n {m m' : XM} (h : nfr m m') : yfn m m' := ⟨fun a k _ q => h.1 a k q, fun k _ _ _ => h.1 _ _ (by omega), h.2⟩
theorem yfn_tr {m m1 m2 : XM} (h : yfn m m1) (g : yfn m1 m2) : yfn m m2 := ⟨fun a k q q0 => (g.1 a k q q0).trans (h.1 a k q q0), fun k q q1 q2 => (g.2.1 k q q1 q2).trans (h.2.1 k q q1 q2), fun a k => (g.2.2.1 a k).trans (h.2.2.1 a k), fun a k => (g.2.2.2 a k).trans (h.2.2.2 a k)⟩
theorem yfn_rf (m : XM) : yfn m m := yfn_z (yfz_rf m)
def wst (st : Nat × Int32 × Nat) (x2 x3 x4 : Int32) : Prop := (st = (1000000, zM, 0) ∧ x2 = zM ∧ x3 = zM ∧ x4 = zN 0) ∨ (1 ≤ st.2.2 ∧ x2 = zN st.1 ∧ x3 = st.2.1 ∧ x4 = zN st.2.2 ∧ st.1 ≤ 1000000)
def wpick (st : Nat × Int32 × Nat) (w : Nat) : Int32 := if w = 0 then zN st.1 else if w = 1 then st.2.1 else zN st.2.2
section WI
variable {N : Nat → Nat} {P : zP}
theorem ndl_10 {us : List Nat} (h : ∀ u ∈ us, u < 10) (j : Nat) (hj : j < us.length) : ndl us j < 10 := by
  unfold ndl
  rw [List.getD_eq_getElem?_getD, List.getElem?_eq_getElem hj]
  exact h _ (List.getElem_mem hj)
theorem ntl_dl {n : Nat} {d : Nat → Nat} {vs : List Nat} (h : ntl n d = vs) {m : XM} (hD : nD m n d) : nD m n (ndl vs) := fun k hk => by
  rw [hD k hk, ← h]
  congr 1
  unfold ndl ntl
  rw [List.getD_eq_getElem?_getD, List.getElem?_map, List.getElem?_range hk]
  rfl
theorem zits_le (hw : zwf P) {us : List Nat} (hu : ∀ u ∈ us, u < zn P) : zits P us ≤ 1000000 := by
  have key : ∀ (l : List Nat), (∀ u ∈ l, u < zn P) → ∀ pre a, zway P 0 pre a → ∃ a', zway P 0 (pre ++ l) a' := by
    intro l
    induction l with
    | nil => intro _ pre a h; exact ⟨a, by rw [List.append_nil]; exact h⟩
    | cons u l ih =>
      intro hl pre a h
      have := ih (fun v hv => hl v (List.mem_cons_of_mem _ hv)) (pre ++ [u]) (zgo P a u) (zway_go hw (hl u List.mem_cons_self) h)
      rwa [List.append_assoc] at this
  obtain ⟨a, ha⟩ := key us hu [] (0, 0, 0) (zway_nil P 0 (by omega))
  rw [List.nil_append] at ha
  rw [← zway_end hw ha]
  unfold zend zsum
  split
  · rename_i g
    have hbd := zlp_bd hw (l := a.1) (x := 7) (Or.inl rfl) ha.1
    rcases ha.2 with ⟨-, hS, -, -, -, -, hwk, hsr⟩ | ⟨-, e2, -⟩
    · have := hS.2.2.2.1
      have := hS.2.2.2.2.1
      omega
    · omega
  · omega
/-- one order more -/
theorem yc_few (hw : zwf P) {w : Nat} (hw2 : w ≤ 2) : ∀ (l : List (List Nat)) (us : List Nat) (g p : Nat) (st : Nat × Int32 × Nat) (x2 x3 x4 : Int32) (m : XM), l.length + 2 ≤ g → nchk (zn P) (us :: l) = true → (∀ vs ∈ us :: l, vs.length = zn P ∧ ∀ u ∈ vs, u < zn P) → wst st x2 x3 x4 → st.2.2 + l.length < 100000 → yU N m P → nD m (zn P) (ndl us) → gi m 85 34 = zN p → p ≤ 10 → gi m 85 41 = zN 0 →
    ∃ m', fX9_fewest_44 N g 85 (zN w) x2 x3 x4 (zN 1) m = some (wpick (wfold P st (us :: l)) w, m') ∧ yfn m m' ∧ gi m' 85 16 = zN 0 ∧ gi m' 85 41 = zN 0 ∧ ∃ p', gi m' 85 34 = zN p' ∧ p' ≤ 10 := by
  have hz := hw.1
  intro l
  induction l with
  | nil =>
    intro us g p st x2 x3 x4 m hg hchk hall hst hlen hU hD hp hp10 h41
    obtain ⟨hul, huu⟩ := hall us List.mem_cons_self
    simp only [List.length_nil] at hg hlen
    obtain ⟨g, rfl⟩ : ∃ j, g = j + 2 := ⟨g - 2, by omega⟩
    obtain ⟨m1, a1, a2, a3, a4, a5, p', a6, a7⟩ := yc_eager hU hp hp10 h41 hul huu
    have hfs := yFs_fin a3
    have hU1 := yU_z hU a2
    have hits := zits_p P p us
    have hil := zits_le hw huu
    have hD1 : nD m1 (zn P) (ndl us) := fun k hk => by rw [a2.1 _ _ (by omega)]; exact hD k hk
    obtain ⟨m2, b1, b2⟩ := yc_next (d := ndl us) (fun j hj => ndl_10 (fun u hu => by have := huu u hu; omega) j (by omega)) hU1 hD1
    have hnone : nxt (zn P) (ndl us) = none := by
      have : (nxl (zn P) us).isNone = true := hchk
      unfold nxl at this
      cases h : nxt (zn P) (ndl us) with
      | none => rfl
      | some d => rw [h] at this; cases this
    rw [hnone] at b1
    have b1' : fX9_nextOrder N 85 m1 = some (zN 0, m2) := b1
    have hend : ∀ y2 y3 y4, wcnt st (zits P us) (yord us 0) = (y2, y3, y4) → ∀ m2 : XM, fX9_fewest_44 N (g + 1) 85 (zN w) (zN y2) y3 (zN y4) (zN 0) m2 = some (wpick (wfold P st [us]) w, m2) := by
      intro y2 y3 y4 hy m2
      have : wfold P st [us] = (y2, y3, y4) := hy
      rw [this]
      unfold fX9_fewest_44 wpick
      have hc : w = 0 ∨ w = 1 ∨ w = 2 := by omega
      rcases hc with rfl | rfl | rfl <;> simp (disch := omega) only [zv, zN_lit, if_true, zN_eq, Nat.reduceEqDiff, if_false, Nat.one_ne_zero]
    have hmain : ∀ its, its = zits P us → ∃ y2 y3 y4, wcnt st (zits P us) (yord us 0) = (y2, y3, y4) ∧ fX9_fewest_75 N (fun q0 x1 x2 x3 x4 x5 m0 => fX9_fewest_44 N (g + 1) q0 x1 x2 x3 x4 x5 m0) 85 (zN w) x2 x3 x4 (zN its) m1 = fX9_fewest_44 N (g + 1) 85 (zN w) (zN y2) y3 (zN y4) (zN 0) m2 := by
      intro its hi
      unfold fX9_fewest_75 fX9_fewest_88 fX9_fewest_99 fX9_fewest_112 wcnt
      rw [yc_order hU1 hD1 hul, hi]
      rcases hst with ⟨rfl, rfl, rfl, rfl⟩ | ⟨s1, rfl, rfl, rfl, s2⟩
      · refine ⟨zits P us, zN (yord us 0), 1, ?_, ?_⟩
        · rw [if_neg (by show ¬ 1000000 < zits P us; omega), if_pos (Or.inr rfl)]
        · simp (disch := omega) only [zN_lit, zneg, if_true, zca, zv, zN_add, b1']
      · by_cases e1 : st.1 ≤ zits P us
        · by_cases e2 : zits P us = st.1
          · refine ⟨st.1, st.2.1, st.2.2 + 1, ?_, ?_⟩
            · rw [if_neg (by omega), if_neg (by omega)]
            · simp (disch := omega) only [zN_lit, zneg, zN_m, if_false, zN_le, e2, Nat.le_refl, if_true, zv, zN_add, b1', zca]
          · refine ⟨st.1, st.2.1, st.2.2, ?_, ?_⟩
            · rw [if_pos (by omega)]
            · simp (disch := omega) only [zN_lit, zneg, zN_m, if_false, zN_le, e1, if_true, zN_eq, e2, zv, zN_add, b1', zca, Nat.add_zero]
        · refine ⟨zits P us, zN (yord us 0), 1, ?_, ?_⟩
          · rw [if_neg (by omega), if_pos (by omega)]
          · simp (disch := omega) only [zN_lit, zneg, zN_m, if_false, zN_le, e1, if_true, zca, zv, zN_add, b1']
    refine ⟨m2, ?_, yfn_tr (yfn_z a2) (yfn_n b2), by rw [b2.1 _ _ (by omega)]; exact a4, by rw [b2.1 _ _ (by omega)]; exact a5, p', by rw [b2.1 _ _ (by omega)]; exact a6, a7⟩
    unfold fX9_fewest_44
    have h30 := hfs.2.2.2.2.2.2.2.2.2.2
    have h31 := hfs.2.2.2.2.2.2.1
    simp (disch := omega) only [zv, zN_lit, zN10, if_false, yc_order hU hD hul, zca, a1, zcv, h30, h31]
    by_cases c : (yAhead P p us).1 = true
    · rw [if_pos c] at hits
      obtain ⟨y2, y3, y4, hy, hq⟩ := hmain 1000000 hits.symm
      simp only [c, if_true]
      rw [hq]
      exact hend y2 y3 y4 hy m2
    · rw [if_neg c] at hits
      obtain ⟨y2, y3, y4, hy, hq⟩ := hmain _ hits.symm
      have hne : ¬ (0 : Nat) = 2 := by omega
      simp (disch := omega) only [c, if_false, zN_eq, hne, Bool.false_eq_true]
      rw [hq]
      exact hend y2 y3 y4 hy m2
  | cons vs l ih =>
    intro us g p st x2 x3 x4 m hg hchk hall hst hlen hU hD hp hp10 h41
    obtain ⟨hul, huu⟩ := hall us List.mem_cons_self
    simp only [List.length_cons] at hg hlen
    obtain ⟨g, rfl⟩ : ∃ j, g = j + 1 := ⟨g - 1, by omega⟩
    obtain ⟨m1, a1, a2, a3, a4, a5, p', a6, a7⟩ := yc_eager hU hp hp10 h41 hul huu
    have hfs := yFs_fin a3
    have hU1 := yU_z hU a2
    have hits := zits_p P p us
    have hil := zits_le hw huu
    have hD1 : nD m1 (zn P) (ndl us) := fun k hk => by rw [a2.1 _ _ (by omega)]; exact hD k hk
    obtain ⟨m2, b1, b2⟩ := yc_next (d := ndl us) (fun j hj => ndl_10 (fun u hu => by have := huu u hu; omega) j (by omega)) hU1 hD1
    have hchk' : (nxl (zn P) us == some vs) = true ∧ nchk (zn P) (vs :: l) = true := by
      have : ((nxl (zn P) us == some vs) && nchk (zn P) (vs :: l)) = true := hchk
      exact Bool.and_eq_true_iff.mp this
    have hnx : nxl (zn P) us = some vs := eq_of_beq hchk'.1
    obtain ⟨d', hd'⟩ : ∃ d', nxt (zn P) (ndl us) = some d' ∧ ntl (zn P) d' = vs := by
      unfold nxl at hnx
      cases h : nxt (zn P) (ndl us) with
      | none => rw [h] at hnx; cases hnx
      | some d => rw [h] at hnx; exact ⟨d, rfl, by injection hnx⟩
    rw [hd'.1] at b1
    have b1' : fX9_nextOrder N 85 m1 = some (zN 1, m2) := b1.1
    have hD2 := ntl_dl hd'.2 b1.2
    have hmain : ∀ its, its = zits P us → ∃ y2 y3 y4, wst (wcnt st (zits P us) (yord us 0)) y2 y3 y4 ∧ fX9_fewest_75 N (fun q0 x1 x2 x3 x4 x5 m0 => fX9_fewest_44 N g q0 x1 x2 x3 x4 x5 m0) 85 (zN w) x2 x3 x4 (zN its) m1 = fX9_fewest_44 N g 85 (zN w) y2 y3 y4 (zN 1) m2 := by
      intro its hi
      unfold fX9_fewest_75 fX9_fewest_88 fX9_fewest_99 fX9_fewest_112 wcnt
      rw [yc_order hU1 hD1 hul, hi]
      rcases hst with ⟨rfl, rfl, rfl, rfl⟩ | ⟨s1, rfl, rfl, rfl, s2⟩
      · refine ⟨zN (zits P us), zN (yord us 0), zN 1, ?_, ?_⟩
        · rw [if_neg (by show ¬ 1000000 < zits P us; omega), if_pos (Or.inr rfl)]
          exact Or.inr ⟨Nat.le_refl _, rfl, rfl, rfl, hil⟩
        · simp (disch := omega) only [zN_lit, zneg, if_true, zca, zv, zN_add, b1']
      · by_cases e1 : st.1 ≤ zits P us
        · by_cases e2 : zits P us = st.1
          · refine ⟨zN st.1, st.2.1, zN (st.2.2 + 1), ?_, ?_⟩
            · rw [if_neg (by omega), if_neg (by omega)]
              exact Or.inr ⟨Nat.le_add_left _ _, rfl, rfl, rfl, s2⟩
            · simp (disch := omega) only [zN_lit, zneg, zN_m, if_false, zN_le, e2, Nat.le_refl, if_true, zv, zN_add, b1', zca]
          · refine ⟨zN st.1, st.2.1, zN st.2.2, ?_, ?_⟩
            · rw [if_pos (by omega)]
              exact Or.inr ⟨s1, rfl, rfl, rfl, s2⟩
            · simp (disch := omega) only [zN_lit, zneg, zN_m, if_false, zN_le, e1, if_true, zN_eq, e2, zv, zN_add, b1', zca, Nat.add_zero]
        · refine ⟨zN (zits P us), zN (yord us 0), zN 1, ?_, ?_⟩
          · rw [if_neg (by omega), if_pos (by omega)]
            exact Or.inr ⟨Nat.le_refl _, rfl, rfl, rfl, hil⟩
          · simp (disch := omega) only [zN_lit, zneg, zN_m, if_false, zN_le, e1, if_true, zca, zv, zN_add, b1']
    have hgo : ∀ y2 y3 y4, wst (wcnt st (zits P us) (yord us 0)) y2 y3 y4 → ∃ m', fX9_fewest_44 N g 85 (zN w) y2 y3 y4 (zN 1) m2 = some (wpick (wfold P st (us :: vs :: l)) w, m') ∧ yfn m m' ∧ gi m' 85 16 = zN 0 ∧ gi m' 85 41 = zN 0 ∧ ∃ p', gi m' 85 34 = zN p' ∧ p' ≤ 10 := by
      intro y2 y3 y4 hy
      have hcl := wcnt_le st (zits P us) (yord us 0)
      obtain ⟨m', c1, c2, c3⟩ := ih vs g p' (wcnt st (zits P us) (yord us 0)) y2 y3 y4 m2 (by omega) hchk'.2 (fun v hv => hall v (List.mem_cons_of_mem _ hv)) hy (by omega) (yU_n hU1 b2) hD2 (by rw [b2.1 _ _ (by omega)]; exact a6) a7 (by rw [b2.1 _ _ (by omega)]; exact a5)
      exact ⟨m', c1, yfn_tr (yfn_tr (yfn_z a2) (yfn_n b2)) c2, c3⟩
    unfold fX9_fewest_44
    have h30 := hfs.2.2.2.2.2.2.2.2.2.2
    have h31 := hfs.2.2.2.2.2.2.1
    simp (disch := omega) only [zv, zN_lit, zN10, if_false, yc_order hU hD hul, zca, a1, zcv, h30, h31]
    by_cases c : (yAhead P p us).1 = true
    · rw [if_pos c] at hits
      obtain ⟨y2, y3, y4, hy, hq⟩ := hmain 1000000 hits.symm
      simp only [c, if_true]
      rw [hq]
      exact hgo y2 y3 y4 hy
    · rw [if_neg c] at hits
      obtain ⟨y2, y3, y4, hy, hq⟩ := hmain _ hits.symm
      have hne : ¬ (0 : Nat) = 2 := by omega
      simp (disch := omega) only [c, if_false, zN_eq, hne, Bool.false_eq_true]
      rw [hq]
      exact hgo y2 y3 y4 hy
end WI
/-- what fewest tells -/
def zFew (P : zP) : Nat × Int32 × Nat := wfold P (1000000, zM, 0) (zC (zn P) (zn P) 0 [])
theorem yc_fewest {N : Nat → Nat} {P : zP} (hw : zwf P) {w p : Nat} {m : XM} (hw2 : w ≤ 2) (hU : yU N m P) (hp : gi m 85 34 = zN p) (hp10 : p ≤ 10) (h41 : gi m 85 41 = zN 0) :
    ∃ m', (xcv (fX9_firstOrder N 85 m) fun m3 => fX9_fewest_44 N XF 85 (zN w) zM zM (zN 0) (zN 1) m3) = some (wpick (zFew P) w, m') ∧ yfn m m' ∧ gi m' 85 16 = zN 0 ∧ gi m' 85 41 = zN 0 ∧ ∃ p', gi m' 85 34 = zN p' ∧ p' ≤ 10 := by
  have hz := hw.1
  obtain ⟨m1, a1, a2, a3⟩ := yc_first hU
  obtain ⟨c1, c2, c3⟩ := nchk_ok (zn P) (by omega)
  have hX := zXF
  unfold zFew
  have hmem := zC_mem (n := zn P) (zn P) 0 []
  generalize zC (zn P) (zn P) 0 [] = L at c1 c2 c3 hmem
  cases L with
  | nil => cases c2
  | cons us l =>
    have hus : us = List.range (zn P) := by
      have : some us = some (List.range (zn P)) := c2
      injection this
    subst hus
    simp only [List.length_cons] at c3
    obtain ⟨m', d1, d2, d3⟩ := yc_few hw hw2 l (List.range (zn P)) XF p (1000000, zM, 0) zM zM (zN 0) m1 (by omega) c1 (fun vs hv => by
      obtain ⟨e1, e2⟩ := hmem vs hv
      refine ⟨by rw [e1]; simp, fun u hu => ?_⟩
      rcases e2 u hu with g | g
      · cases g
      · exact g) (Or.inl ⟨rfl, rfl, rfl, rfl⟩) (by show 0 + l.length < 100000; omega) (yU_n hU a2) a3 (by rw [a2.1 _ _ (by omega)]; exact hp) hp10 (by rw [a2.1 _ _ (by omega)]; exact h41)
    exact ⟨m', by rw [a1, zcv]; exact d1, yfn_tr (yfn_n a2) d2, d3⟩
