/-! ===== t: what is missing, of the other reader ===== -/
def qTb (K : Nat → Int32) (Q : pQ) (DL : List pD) (t p : Nat) : Prop := ∃ t', t' < t ∧ ∃ q ∈ pcs DL, pleaf K t' q ∧ qbc Q q ∧ q.2.2 = p
def qAb (K : Nat → Int32) (Q : pQ) (DL : List pD) (a p : Nat) : Prop := ∃ a', a' < a ∧ ∃ D ∈ DL, ∃ t, D.2 = some t ∧ pacT K a' t ∧ qbt Q t ∧ t.2 = p
/-- x is the least of S, -1 without one -/
def qSt (S : Nat → Prop) (x : Int32) : Prop := (x = zM ∧ ∀ p, ¬ S p) ∨ ∃ p, x = zN p ∧ p ≤ 600 ∧ S p ∧ ∀ p', S p' → p ≤ p'
theorem qSt_cg {S S' : Nat → Prop} {x : Int32} (h : ∀ p, S p ↔ S' p) (g : qSt S x) : qSt S' x := by
  rcases g with ⟨g1, g2⟩ | ⟨p, g1, g2, g3, g4⟩
  · exact Or.inl ⟨g1, fun p q => g2 p ((h p).2 q)⟩
  · exact Or.inr ⟨p, g1, g2, (h p).1 g3, fun p' q => g4 p' ((h p').2 q)⟩
theorem qSt_in {S S' : Nat → Prop} {x : Int32} {p0 : Nat} (hp0 : p0 ≤ 600) (h : ∀ p, S' p ↔ S p ∨ p = p0) (hx : x = zM ∨ zN p0 ≤ x) (g : qSt S x) : qSt S' (zN p0) := by
  refine Or.inr ⟨p0, rfl, hp0, (h p0).2 (Or.inr rfl), fun p' q => ?_⟩
  rcases (h p').1 q with r | r
  · rcases g with ⟨g1, g2⟩ | ⟨p, g1, g2, g3, g4⟩
    · exact absurd r (g2 p')
    · have := g4 p' r
      rw [g1] at hx
      rcases hx with hx | hx
      · rw [zN_m (by omega)] at hx; exact hx.elim
      · rw [zN_le (by omega) (by omega)] at hx
        omega
  · omega
theorem qSt_sk {S S' : Nat → Prop} {p p0 : Nat} (h : ∀ p, S' p ↔ S p ∨ p = p0) (hp : p ≤ p0) (hp6 : p ≤ 600) (g1 : S p) (g2 : ∀ p', S p' → p ≤ p') : qSt S' (zN p) := by
  refine Or.inr ⟨p, rfl, hp6, (h p).2 (Or.inl g1), fun p' q => ?_⟩
  rcases (h p').1 q with r | r
  · exact g2 p' r
  · omega
section SE
variable {N : Nat → Nat} {Q : pQ} {DL : List pD} {nt na : Nat} {w : XM} {K : Nat → Int32}
theorem pleaf_k {t : Nat} {q : pK} (h : pleaf K t q) (hq : q.1 = 1 ∨ q.1 = 2) : K (1410 + 6 * t + 1) = zN q.1 ∧ K (1410 + 6 * t + 2) = zN (q.2.1 / 26) ∧ K (1410 + 6 * t + 3) = zN (q.2.1 % 26) ∧ K (1410 + 6 * t + 5) = zN q.2.2 ∧ q.2.1 < 182 := by
  rcases h with h | h | h
  · omega
  · omega
  · exact h.2
theorem pleaf_eq {t : Nat} {q q' : pK} (h : pleaf K t q) (h' : pleaf K t q') (hq : q.1 = 1 ∨ q.1 = 2) (hq' : q'.1 = 1 ∨ q'.1 = 2) (hb : q.2.2 ≤ 600) (hb' : q'.2.2 ≤ 600) : q = q' := by
  obtain ⟨a1, a2, a3, a4, a5⟩ := pleaf_k h hq
  obtain ⟨b1, b2, b3, b4, b5⟩ := pleaf_k h' hq'
  have e1 := zN_inj (by omega) (by omega) (a1.symm.trans b1)
  have e2 := zN_inj (by omega) (by omega) (a2.symm.trans b2)
  have e3 := zN_inj (by omega) (by omega) (a3.symm.trans b3)
  have e4 := zN_inj (by omega) (by omega) (a4.symm.trans b4)
  exact Prod.ext e1 (Prod.ext (by show q.2.1 = q'.2.1; omega) e4)
theorem pacT_eq {a : Nat} {t t' : Nat × Nat} (h : pacT K a t) (h' : pacT K a t') (hb : t.2 ≤ 600) (hb' : t'.2 ≤ 600) : t = t' := by
  obtain ⟨a1, a2, a3, a4⟩ := h
  obtain ⟨b1, b2, b3, b4⟩ := h'
  have e1 := zN_inj (by omega) (by omega) (a1.symm.trans b1)
  have e2 := zN_inj (by omega) (by omega) (a2.symm.trans b2)
  have e3 := zN_inj (by omega) (by omega) (a3.symm.trans b3)
  exact Prod.ext (by show t.1 = t'.1; omega) e3
/-- what a name comes to, of the other reader -/
theorem r_lk (hN : rN N w) (hQ : rQ w Q DL nt na) (hW : qW Q) {key : Nat} (hk : key < 182) : (qul Q (key / 26) = none ∧ qlk Q key = none) ∨ ∃ u, qul Q (key / 26) = some u ∧ u < qn Q ∧ fX9_named N 89 (zN u) (zN (key % 26)) w = some (zopt ((qlk Q key).map (qid Q)), w) := by
  cases e : qul Q (key / 26) with
  | none => exact Or.inl ⟨rfl, by unfold qlk; rw [e]⟩
  | some u =>
    have hu := ((hW.2.2.2.1 (key / 26) u (by omega)).1 e).1
    refine Or.inr ⟨u, rfl, hu, ?_⟩
    rw [r_nmd hN hQ hW hu (Nat.mod_lt _ (by omega))]
    have : qlk Q key = qnm Q u (key % 26) := by unfold qlk; rw [e]
    rw [this]
theorem r_m59 (hN : rN N w) (hQ : rQ w Q DL nt na) (hW : qW Q) {t : Nat} {q : pK} (ht : t < 400) (h : pleaf (gi w 89) t q) (hq : q.1 = 1 ∨ q.1 = 2) (r4 : Nat → Int32 → Int32 → XM → Option (Int32 × XM)) (x1 : Int32) : (qbc Q q → fX9_missing_59 N r4 85 x1 (zN t) (zN q.1) (zN q.2.2) w = r4 85 (zN q.2.2) (zN (t + 1)) w) ∧ (¬ qbc Q q → fX9_missing_59 N r4 85 x1 (zN t) (zN q.1) (zN q.2.2) w = r4 85 x1 (zN (t + 1)) w) := by
  obtain ⟨a1, a2, a3, a4, a5⟩ := pleaf_k h hq
  have huby := r_uby hN hQ hW (L := q.2.1 / 26) (by omega)
  have hlk := r_lk hN hQ hW (key := q.2.1) a5
  have hN0 := hN
  obtain ⟨n1, n2⟩ := hN
  have hn := hW.1
  have e0 : fX9_missing_59 N r4 85 x1 (zN t) (zN q.1) (zN q.2.2) w = (if zopt (qul Q (q.2.1 / 26)) = zM then (fX9_missing_105 N r4 85 x1 (zN t) (zN q.1) (zN q.2.2) zM w) else (xca (fX9_named N 89 (zopt (qul Q (q.2.1 / 26))) (zN (q.2.1 % 26)) w) fun v12 m11 => fX9_missing_105 N r4 85 x1 (zN t) (zN q.1) (zN q.2.2) v12 m11)) := by
    unfold fX9_missing_59 fX9_ofTerm
    simp (disch := omega) only [zgr n2, zv, zN_lit, zN_mul, zN_add, zald, a2, a3, zca, huby, zneg]
  have e105 : fX9_missing_105 N r4 85 x1 (zN t) (zN q.1) (zN q.2.2) zM w = r4 85 (zN q.2.2) (zN (t + 1)) w := by
    unfold fX9_missing_105 fX9_missing_145 fX9_missing_148
    simp only [zneg, if_true, zv, zN_lit, zN_add]
  have enone : qlk Q q.2.1 = none → fX9_missing_59 N r4 85 x1 (zN t) (zN q.1) (zN q.2.2) w = r4 85 (zN q.2.2) (zN (t + 1)) w := fun hl => by
    rw [e0]
    rcases hlk with ⟨h1, h2⟩ | ⟨u, h1, hu, h2⟩
    · rw [h1, if_pos (show zopt none = zM from rfl)]; exact e105
    · rw [h1, if_neg (by rw [show zopt (some u) = zN u from rfl, zN_m (by omega)]; exact id)]
      show (xca (fX9_named N 89 (zN u) (zN (q.2.1 % 26)) w) fun v12 m11 => fX9_missing_105 N r4 85 x1 (zN t) (zN q.1) (zN q.2.2) v12 m11) = _
      rw [h2, hl, zca]; exact e105
  cases hl : qlk Q q.2.1 with
  | none =>
    refine ⟨fun _ => enone hl, fun hn => absurd ⟨hq, fun ⟨x, hx, _⟩ => by rw [hl] at hx; simp at hx⟩ hn⟩
  | some x =>
    obtain ⟨hok, hkk⟩ := qlk_ok hW hl
    have hid := qid_lt hW hok
    have hk4 := (hW.2.2.2.2.2.1 x hok).1
    have p1 := (hQ.2.2.2.2.1 x hok).1
    have e1 : fX9_missing_59 N r4 85 x1 (zN t) (zN q.1) (zN q.2.2) w = (if (if qknd Q x = 4 then 1 else 0) = (if q.1 = 2 then 1 else 0) then r4 85 x1 (zN (t + 1)) w else r4 85 (zN q.2.2) (zN (t + 1)) w) := by
      rcases hlk with ⟨h1, h2⟩ | ⟨u, h1, hu, h2⟩
      · rw [hl] at h2; simp at h2
      · rw [e0, h1, if_neg (by rw [show zopt (some u) = zN u from rfl, zN_m (by omega)]; exact id)]
        show (xca (fX9_named N 89 (zN u) (zN (q.2.1 % 26)) w) fun v12 m11 => fX9_missing_105 N r4 85 x1 (zN t) (zN q.1) (zN q.2.2) v12 m11) = _
        rw [h2, hl, zca]
        show fX9_missing_105 N r4 85 x1 (zN t) (zN q.1) (zN q.2.2) (zN (qid Q x)) w = _
        unfold fX9_missing_105
        simp (disch := omega) only [zN_lit, zneg, zN_m, if_false, zgr n2]
        unfold fX9_ofMember
        simp (disch := omega) only [zv, zN_lit, zN_mul, zN_add, zald, Nat.add_zero, p1, zca, zN_eq]
        unfold fX9_missing_132 fX9_missing_142 fX9_missing_145 fX9_missing_148
        simp (disch := omega) only [zN_lit, zN_eq, zv, zN_add]
        by_cases r1 : qknd Q x = 4
        · by_cases r2 : q.1 = 2
          · simp only [r1, r2, if_true]
          · simp only [r1, r2, if_true, if_false]
        · by_cases r2 : q.1 = 2
          · simp only [r1, r2, if_true, if_false]
          · simp only [r1, r2, if_false, if_true]
    have hbiff : qbc Q q ↔ ¬ (qknd Q x = 4 ↔ q.1 = 2) := by
      constructor
      · intro hb r; exact hb.2 ⟨x, hl, r⟩
      · intro hb
        exact ⟨hq, fun ⟨x', hx', hr⟩ => by
          rw [hl] at hx'
          have e : x = x' := by simpa using hx'
          rw [← e] at hr
          exact hb hr⟩
    rw [e1, hbiff]
    by_cases r1 : qknd Q x = 4
    · by_cases r2 : q.1 = 2
      · rw [if_pos r1, if_pos r2, if_pos rfl]
        exact ⟨fun h => absurd ⟨fun _ => r2, fun _ => r1⟩ h, fun _ => rfl⟩
      · rw [if_pos r1, if_neg r2, if_neg (by omega)]
        exact ⟨fun _ => rfl, fun h => absurd (fun r => r2 (r.1 r1)) h⟩
    · by_cases r2 : q.1 = 2
      · rw [if_neg r1, if_pos r2, if_neg (by omega)]
        exact ⟨fun _ => rfl, fun h => absurd (fun r => r1 (r.2 r2)) h⟩
      · rw [if_neg r1, if_neg r2, if_pos rfl]
        exact ⟨fun h => absurd ⟨fun r => absurd r r1, fun r => absurd r r2⟩ h, fun _ => rfl⟩
end SE
