/-! ===== t: the loops over what is missing ===== -/
section SF
variable {N : Nat → Nat} {Q : pQ} {DL : List pD} {nt na : Nat} {w : XM}
theorem r_mis4 (hN : rN N w) (hQ : rQ w Q DL nt na) (hW : qW Q) (hnt : nt ≤ 300) (h3 : gi w 89 3 = zN nt) (hf : pfl (gi w 89) 0 nt (pcs DL)) (hb : ∀ q ∈ pcs DL, q.1 = 1 ∨ q.1 = 2 → q.2.2 ≤ 600) : ∀ (g f t : Nat) (x1 : Int32), nt - t = g → g < f → t ≤ nt → qSt (qTb (gi w 89) Q DL t) x1 → ∃ x', qSt (qTb (gi w 89) Q DL nt) x' ∧ fX9_missing_4 N f 85 x1 (zN t) w = fX9_missing_156 N XF 85 x' (zN 0) w := by
  have hN0 := hN
  obtain ⟨n1, n2⟩ := hN
  intro g
  induction g with
  | zero =>
    intro f t x1 hg hf' ht hS
    obtain ⟨f, rfl⟩ : ∃ g, f = g + 1 := ⟨f - 1, by omega⟩
    refine ⟨x1, by rw [show nt = t by omega]; exact hS, ?_⟩
    rw [fX9_missing_4, zv, zgr n2]
    simp (disch := omega) only [zN_lit, zald, h3, zN_le]
    rw [if_pos (show nt ≤ t by omega)]
  | succ g ih =>
    intro f t x1 hg hf' ht hS
    obtain ⟨f, rfl⟩ : ∃ g, f = g + 1 := ⟨f - 1, by omega⟩
    have e0 : fX9_missing_4 N (f + 1) 85 x1 (zN t) w = (if gi w 89 (1410 + 6 * t + 1) = zN 1 ∨ gi w 89 (1410 + 6 * t + 1) = zN 2 then (fX9_missing_45 N (fun q0 x1 x2 m0 => fX9_missing_4 N f q0 x1 x2 m0) 85 x1 (zN t) (gi w 89 (1410 + 6 * t + 1)) (gi w 89 (1410 + 6 * t + 5)) w) else (fX9_missing_4 N f 85 x1 (zN (t + 1)) w)) := by
      rw [fX9_missing_4, zv, zgr n2]
      simp (disch := omega) only [zN_lit, zald, h3, zN_le]
      rw [if_neg (show ¬ nt ≤ t by omega)]
      unfold fX9_ofTerm fX9_missing_148
      simp (disch := omega) only [zgr n2, zv, zN_lit, zN_mul, zN_add, zald, zca]
      by_cases r1 : gi w 89 (1410 + 6 * t + 1) = zN 1
      · rw [if_pos r1, if_pos (Or.inl r1)]
      · rw [if_neg r1]
        by_cases r2 : gi w 89 (1410 + 6 * t + 1) = zN 2
        · rw [if_pos r2, if_pos (Or.inr r2)]
        · rw [if_neg r2, if_neg (fun r => r.elim r1 r2)]
    by_cases hk : gi w 89 (1410 + 6 * t + 1) = zN 1 ∨ gi w 89 (1410 + 6 * t + 1) = zN 2
    · obtain ⟨q, hq1, hq2, hq3⟩ := hf.1 t (Nat.zero_le _) (by omega) hk
      obtain ⟨a1, a2, a3, a4, a5⟩ := pleaf_k hq3 hq2
      have hpl := hb q hq1 hq2
      obtain ⟨m1, m2⟩ := r_m59 hN0 hQ hW (t := t) (by omega) hq3 hq2 (fun q0 x1 x2 m0 => fX9_missing_4 N f q0 x1 x2 m0) x1
      have hun : ∀ q' ∈ pcs DL, pleaf (gi w 89) t q' → qbc Q q' → q' = q := fun q' r1 r2 r3 => pleaf_eq r2 hq3 r3.1 hq2 (hb q' r1 r3.1) hpl
      have hSy : qbc Q q → ∀ p, qTb (gi w 89) Q DL (t + 1) p ↔ qTb (gi w 89) Q DL t p ∨ p = q.2.2 := fun hbq p => by
        constructor
        · rintro ⟨t', r1, q', r2, r3, r4, r5⟩
          by_cases e : t' = t
          · rw [e] at r3
            exact Or.inr (by rw [← r5, hun q' r2 r3 r4])
          · exact Or.inl ⟨t', by omega, q', r2, r3, r4, r5⟩
        · rintro (⟨t', r1, r2⟩ | r)
          · exact ⟨t', by omega, r2⟩
          · exact ⟨t, by omega, q, hq1, hq3, hbq, r.symm⟩
      have hSn : ¬ qbc Q q → ∀ p, qTb (gi w 89) Q DL t p ↔ qTb (gi w 89) Q DL (t + 1) p := fun hbq p => by
        constructor
        · rintro ⟨t', r1, r2⟩
          exact ⟨t', by omega, r2⟩
        · rintro ⟨t', r1, q', r2, r3, r4, r5⟩
          by_cases e : t' = t
          · rw [e] at r3
            rw [hun q' r2 r3 r4] at r4
            exact absurd r4 hbq
          · exact ⟨t', by omega, q', r2, r3, r4, r5⟩
      rw [e0, if_pos hk, a1, a4]
      unfold fX9_missing_45 fX9_missing_148
      simp only [zneg, zN_lit, zv, zN_add]
      by_cases hx : x1 = zM ∨ zN q.2.2 ≤ x1
      · have e1 : (if x1 = zM then fX9_missing_59 N (fun q0 x1 x2 m0 => fX9_missing_4 N f q0 x1 x2 m0) 85 x1 (zN t) (zN q.1) (zN q.2.2) w else if zN q.2.2 ≤ x1 then fX9_missing_59 N (fun q0 x1 x2 m0 => fX9_missing_4 N f q0 x1 x2 m0) 85 x1 (zN t) (zN q.1) (zN q.2.2) w else fX9_missing_4 N f 85 x1 (zN (t + 1)) w) = fX9_missing_59 N (fun q0 x1 x2 m0 => fX9_missing_4 N f q0 x1 x2 m0) 85 x1 (zN t) (zN q.1) (zN q.2.2) w := by
          by_cases e : x1 = zM
          · rw [if_pos e]
          · rw [if_neg e, if_pos (hx.resolve_left e)]
        rw [e1]
        by_cases hbq : qbc Q q
        · rw [m1 hbq]
          exact ih f (t + 1) (zN q.2.2) (by omega) (by omega) (by omega) (qSt_in hpl (hSy hbq) hx hS)
        · rw [m2 hbq]
          exact ih f (t + 1) x1 (by omega) (by omega) (by omega) (qSt_cg (hSn hbq) hS)
      · rw [if_neg (fun r => hx (Or.inl r)), if_neg (fun r => hx (Or.inr r))]
        refine ih f (t + 1) x1 (by omega) (by omega) (by omega) ?_
        by_cases hbq : qbc Q q
        · rcases hS with ⟨g1, g2⟩ | ⟨p, g1, g2, g3, g4⟩
          · exact absurd (Or.inl g1) hx
          · rw [g1]
            refine qSt_sk (hSy hbq) ?_ g2 g3 g4
            by_cases r : p ≤ q.2.2
            · exact r
            · exact absurd (Or.inr (by rw [g1, zN_le (by omega) (by omega)]; omega)) hx
        · exact qSt_cg (hSn hbq) hS
    · rw [e0, if_neg hk]
      refine ih f (t + 1) x1 (by omega) (by omega) (by omega) (qSt_cg (fun p => ?_) hS)
      constructor
      · rintro ⟨t', r1, r2⟩
        exact ⟨t', by omega, r2⟩
      · rintro ⟨t', r1, q', r2, r3, r4, r5⟩
        by_cases e : t' = t
        · rw [e] at r3
          have := (pleaf_k r3 r4.1).1
          rcases r4.1 with r | r
          · rw [r] at this; exact absurd (Or.inl this) hk
          · rw [r] at this; exact absurd (Or.inr this) hk
        · exact ⟨t', by omega, q', r2, r3, r4, r5⟩
theorem r_m202 (hN : rN N w) (hQ : rQ w Q DL nt na) (hW : qW Q) {a : Nat} {t : Nat × Nat} (ha : a < 220) (h : pacT (gi w 89) a t) (r : Nat → Int32 → Int32 → XM → Option (Int32 × XM)) (x1 : Int32) : (qbt Q t → fX9_missing_202 N r 85 x1 (zN a) (zN t.2) w = r 85 (zN t.2) (zN (a + 1)) w) ∧ (¬ qbt Q t → fX9_missing_202 N r 85 x1 (zN a) (zN t.2) w = r 85 x1 (zN (a + 1)) w) := by
  obtain ⟨a1, a2, a3, a4⟩ := h
  have huby := r_uby hN hQ hW (L := t.1 / 26) (by omega)
  have hlk := r_lk hN hQ hW (key := t.1) a4
  obtain ⟨n1, n2⟩ := hN
  have hn := hW.1
  have e0 : fX9_missing_202 N r 85 x1 (zN a) (zN t.2) w = (if zopt (qul Q (t.1 / 26)) = zM then (fX9_missing_248 N r 85 x1 (zN a) (zN t.2) zM w) else (xca (fX9_named N 89 (zopt (qul Q (t.1 / 26))) (zN (t.1 % 26)) w) fun v12 m11 => fX9_missing_248 N r 85 x1 (zN a) (zN t.2) v12 m11)) := by
    unfold fX9_missing_202 fX9_ofAct
    simp (disch := omega) only [zgr n2, zv, zN_lit, zN_mul, zN_add, zald, Nat.add_zero, a1, a2, zca, huby, zneg]
  have e248 : fX9_missing_248 N r 85 x1 (zN a) (zN t.2) zM w = r 85 (zN t.2) (zN (a + 1)) w := by
    unfold fX9_missing_248 fX9_missing_270 fX9_missing_272
    simp only [zneg, if_true, zv, zN_lit, zN_add]
  cases hl : qlk Q t.1 with
  | none =>
    refine ⟨fun _ => ?_, fun hn => absurd (fun ⟨x, hx, _⟩ => by rw [hl] at hx; simp at hx) hn⟩
    rw [e0]
    rcases hlk with ⟨h1, h2⟩ | ⟨u, h1, hu, h2⟩
    · rw [h1, if_pos (show zopt none = zM from rfl)]; exact e248
    · rw [h1, if_neg (by rw [show zopt (some u) = zN u from rfl, zN_m (by omega)]; exact id)]
      show (xca (fX9_named N 89 (zN u) (zN (t.1 % 26)) w) fun v12 m11 => fX9_missing_248 N r 85 x1 (zN a) (zN t.2) v12 m11) = _
      rw [h2, hl, zca]; exact e248
  | some x =>
    obtain ⟨hok, hkk⟩ := qlk_ok hW hl
    have hid := qid_lt hW hok
    have hk4 := (hW.2.2.2.2.2.1 x hok).1
    have p1 := (hQ.2.2.2.2.1 x hok).1
    have e1 : fX9_missing_202 N r 85 x1 (zN a) (zN t.2) w = (if qknd Q x = 1 then r 85 x1 (zN (a + 1)) w else r 85 (zN t.2) (zN (a + 1)) w) := by
      rcases hlk with ⟨h1, h2⟩ | ⟨u, h1, hu, h2⟩
      · rw [hl] at h2; simp at h2
      · rw [e0, h1, if_neg (by rw [show zopt (some u) = zN u from rfl, zN_m (by omega)]; exact id)]
        show (xca (fX9_named N 89 (zN u) (zN (t.1 % 26)) w) fun v12 m11 => fX9_missing_248 N r 85 x1 (zN a) (zN t.2) v12 m11) = _
        rw [h2, hl, zca]
        show fX9_missing_248 N r 85 x1 (zN a) (zN t.2) (zN (qid Q x)) w = _
        unfold fX9_missing_248 fX9_missing_270 fX9_missing_272 fX9_ofMember
        simp (disch := omega) only [zN_lit, zneg, zN_m, if_false, zgr n2, zv, zN_mul, zN_add, zald, Nat.add_zero, p1, zca, zN_eq]
    rw [e1]
    by_cases h1 : qknd Q x = 1
    · rw [if_pos h1]
      exact ⟨fun hb => absurd ⟨x, hl, h1⟩ hb, fun _ => rfl⟩
    · rw [if_neg h1]
      exact ⟨fun _ => rfl, fun hn => absurd (fun ⟨x', hx', hr⟩ => by
        rw [hl] at hx'
        have e : x = x' := by simpa using hx'
        rw [← e] at hr
        exact h1 hr) hn⟩
theorem r_mis156 (hN : rN N w) (hQ : rQ w Q DL nt na) (hW : qW Q) (hna : na ≤ 150) (h2 : gi w 89 2 = zN na) (hf : pafl (gi w 89) na DL) (hb : ∀ D ∈ DL, ∀ t, D.2 = some t → t.2 ≤ 600) (S : Nat → Prop) : ∀ (g f a : Nat) (x1 : Int32), na - a = g → g < f → a ≤ na → qSt (fun p => S p ∨ qAb (gi w 89) Q DL a p) x1 → ∃ x', qSt (fun p => S p ∨ qAb (gi w 89) Q DL na p) x' ∧ fX9_missing_156 N f 85 x1 (zN a) w = some (x', w) := by
  have hN0 := hN
  obtain ⟨n1, n2⟩ := hN
  intro g
  induction g with
  | zero =>
    intro f a x1 hg hf' ht hS
    obtain ⟨f, rfl⟩ : ∃ g, f = g + 1 := ⟨f - 1, by omega⟩
    refine ⟨x1, by rw [show na = a by omega]; exact hS, ?_⟩
    rw [fX9_missing_156, zv, zgr n2]
    simp (disch := omega) only [zN_lit, zald, h2, zN_le]
    rw [if_pos (show na ≤ a by omega)]
  | succ g ih =>
    intro f a x1 hg hf' ha hS
    obtain ⟨f, rfl⟩ : ∃ g, f = g + 1 := ⟨f - 1, by omega⟩
    have e0 : fX9_missing_156 N (f + 1) 85 x1 (zN a) w = (if gi w 89 (530 + 4 * a) = zM then (fX9_missing_156 N f 85 x1 (zN (a + 1)) w) else (if x1 = zM then (fX9_missing_202 N (fun q0 x1 x2 m0 => fX9_missing_156 N f q0 x1 x2 m0) 85 x1 (zN a) (gi w 89 (530 + 4 * a + 3)) w) else (if gi w 89 (530 + 4 * a + 3) ≤ x1 then (fX9_missing_202 N (fun q0 x1 x2 m0 => fX9_missing_156 N f q0 x1 x2 m0) 85 x1 (zN a) (gi w 89 (530 + 4 * a + 3)) w) else (fX9_missing_156 N f 85 x1 (zN (a + 1)) w)))) := by
      rw [fX9_missing_156, zv, zgr n2]
      simp (disch := omega) only [zN_lit, zald, h2, zN_le]
      rw [if_neg (show ¬ na ≤ a by omega)]
      unfold fX9_ofAct fX9_missing_272
      simp (disch := omega) only [zgr n2, zv, zN_lit, zN_mul, zN_add, zald, zca, Nat.add_zero, zneg]
    by_cases hk : gi w 89 (530 + 4 * a) = zM
    · rw [e0, if_pos hk]
      refine ih f (a + 1) x1 (by omega) (by omega) (by omega) (qSt_cg (fun p => ?_) hS)
      constructor
      · rintro (r | ⟨a', r1, r2⟩)
        · exact Or.inl r
        · exact Or.inr ⟨a', by omega, r2⟩
      · rintro (r | ⟨a', r1, D, r2, t, r3, r4, r5⟩)
        · exact Or.inl r
        · by_cases e : a' = a
          · rw [e] at r4
            have := r4.1
            rw [hk, zm_N (by have := r4.2.2.2; omega)] at this
            exact this.elim
          · exact Or.inr ⟨a', by omega, D, r2, t, r3, r4, r5⟩
    · obtain ⟨D, hD, t, ht, hp⟩ := hf.1 a (by omega) hk
      have hpl := hb D hD t ht
      obtain ⟨m1, m2⟩ := r_m202 hN0 hQ hW (a := a) (t := t) (by omega) hp (fun q0 x1 x2 m0 => fX9_missing_156 N f q0 x1 x2 m0) x1
      have hun : ∀ D' ∈ DL, ∀ t', D'.2 = some t' → pacT (gi w 89) a t' → t' = t := fun D' r1 t' r2 r3 => pacT_eq r3 hp (hb D' r1 t' r2) hpl
      have hSy : qbt Q t → ∀ p, (S p ∨ qAb (gi w 89) Q DL (a + 1) p) ↔ (S p ∨ qAb (gi w 89) Q DL a p) ∨ p = t.2 := fun hbq p => by
        constructor
        · rintro (r | ⟨a', r1, D', r2, t', r3, r4, r5, r6⟩)
          · exact Or.inl (Or.inl r)
          · by_cases e : a' = a
            · rw [e] at r4
              exact Or.inr (by rw [← r6, hun D' r2 t' r3 r4])
            · exact Or.inl (Or.inr ⟨a', by omega, D', r2, t', r3, r4, r5, r6⟩)
        · rintro ((r | ⟨a', r1, r2⟩) | r)
          · exact Or.inl r
          · exact Or.inr ⟨a', by omega, r2⟩
          · exact Or.inr ⟨a, by omega, D, hD, t, ht, hp, hbq, r.symm⟩
      have hSn : ¬ qbt Q t → ∀ p, (S p ∨ qAb (gi w 89) Q DL a p) ↔ (S p ∨ qAb (gi w 89) Q DL (a + 1) p) := fun hbq p => by
        constructor
        · rintro (r | ⟨a', r1, r2⟩)
          · exact Or.inl r
          · exact Or.inr ⟨a', by omega, r2⟩
        · rintro (r | ⟨a', r1, D', r2, t', r3, r4, r5, r6⟩)
          · exact Or.inl r
          · by_cases e : a' = a
            · rw [e] at r4
              rw [hun D' r2 t' r3 r4] at r5
              exact absurd r5 hbq
            · exact Or.inr ⟨a', by omega, D', r2, t', r3, r4, r5, r6⟩
      rw [e0, if_neg hk, hp.2.2.1]
      by_cases hx : x1 = zM ∨ zN t.2 ≤ x1
      · have e1 : (if x1 = zM then fX9_missing_202 N (fun q0 x1 x2 m0 => fX9_missing_156 N f q0 x1 x2 m0) 85 x1 (zN a) (zN t.2) w else if zN t.2 ≤ x1 then fX9_missing_202 N (fun q0 x1 x2 m0 => fX9_missing_156 N f q0 x1 x2 m0) 85 x1 (zN a) (zN t.2) w else fX9_missing_156 N f 85 x1 (zN (a + 1)) w) = fX9_missing_202 N (fun q0 x1 x2 m0 => fX9_missing_156 N f q0 x1 x2 m0) 85 x1 (zN a) (zN t.2) w := by
          by_cases e : x1 = zM
          · rw [if_pos e]
          · rw [if_neg e, if_pos (hx.resolve_left e)]
        rw [e1]
        by_cases hbq : qbt Q t
        · rw [m1 hbq]
          exact ih f (a + 1) (zN t.2) (by omega) (by omega) (by omega) (qSt_in hpl (hSy hbq) hx hS)
        · rw [m2 hbq]
          exact ih f (a + 1) x1 (by omega) (by omega) (by omega) (qSt_cg (hSn hbq) hS)
      · rw [if_neg (fun r => hx (Or.inl r)), if_neg (fun r => hx (Or.inr r))]
        refine ih f (a + 1) x1 (by omega) (by omega) (by omega) ?_
        by_cases hbq : qbt Q t
        · rcases hS with ⟨g1, g2⟩ | ⟨p, g1, g2, g3, g4⟩
          · exact absurd (Or.inl g1) hx
          · rw [g1]
            refine qSt_sk (hSy hbq) ?_ g2 g3 g4
            by_cases r : p ≤ t.2
            · exact r
            · exact absurd (Or.inr (by rw [g1, zN_le (by omega) (by omega)]; omega)) hx
        · exact qSt_cg (hSn hbq) hS
theorem r_mis (hN : rN N w) (hQ : rQ w Q DL nt na) (hW : qW Q) (hnt : nt ≤ 300) (hna : na ≤ 150) (h3 : gi w 89 3 = zN nt) (h2 : gi w 89 2 = zN na) (hf : pfl (gi w 89) 0 nt (pcs DL)) (ha : pafl (gi w 89) na DL) {hi : Nat} (hs : psD 0 DL hi) (hhi : hi ≤ 600) : ∃ x, qSt (qBp Q DL) x ∧ fX9_missing N 85 w = some (x, w) := by
  have hX := zXF
  obtain ⟨l1, l2, l3⟩ := psD_lb DL hs
  obtain ⟨x1, u1, u2⟩ := r_mis4 hN hQ hW hnt h3 hf (fun q r1 r2 => by have := l2 q r1 r2; omega) nt XF 0 zM (by omega) (by omega) (by omega) (Or.inl ⟨rfl, fun p ⟨t', r, _⟩ => by omega⟩)
  obtain ⟨x2, v1, v2⟩ := r_mis156 hN hQ hW hna h2 ha (fun D r1 t r2 => by have := l1 D r1 t r2; omega) (qTb (gi w 89) Q DL nt) na XF 0 x1 (by omega) (by omega) (by omega) (qSt_cg (fun p => ⟨fun r => Or.inl r, fun r => r.elim id (fun ⟨a', r, _⟩ => by omega)⟩) u1)
  refine ⟨x2, qSt_cg (fun p => ?_) v1, ?_⟩
  · constructor
    · rintro (⟨t', r1, q, r2, r3, r4, r5⟩ | ⟨a', r1, D, r2, t, r3, r4, r5, r6⟩)
      · exact Or.inr ⟨q, r2, r4, r5⟩
      · exact Or.inl ⟨D, r2, t, r3, r5, r6⟩
    · rintro (⟨D, r1, t, r2, r3, r4⟩ | ⟨q, r1, r2, r3⟩)
      · obtain ⟨a, s1, s2⟩ := ha.2 D r1 t r2
        exact Or.inr ⟨a, s1, D, r1, t, r2, s2, r3, r4⟩
      · obtain ⟨t, s1, s2, s3⟩ := hf.2 q r1 r2.1
        exact Or.inl ⟨t, s2, q, r1, s3, r2, r3⟩
  · unfold fX9_missing
    simp only [zN_lit, zneg]
    rw [u2]; exact v2
end SF
