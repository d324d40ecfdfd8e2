/-! ===== v: touched by the class ===== -/
section VE
variable {N : Nat → Nat} {P : zP} {c : Nat}
theorem zdats_v {m m' : XM} (hU : c + 18 ≤ 79) (g : vcf m m') {k : Nat} {l : List zDeed} (h : zdats m c k l) : zdats m' c k l := zdats_fr (fun a j _ _ => g.1 a j (by omega) (by omega) (by omega)) h
theorem vc_fun_136 {r111 : Nat → Nat → Int32 → XM → Option (Int32 × XM)} {i f k len : Nat} (hf : zok P f) (hlen : 1 ≤ len) (hkl : k + len ≤ 300) : ∀ (l : List zDeed) (n k' : Nat) (m : XM) (S : Nat → Bool) (Q : List Nat) (B : Nat), l.length < n → k' + l.length = k + len → gi m (c + 7) f = zN k → gi m (c + 6) f = zN (len - 1) → zdats m c k' l → (∀ d ∈ l, zdok P d) → vU N m c P → vC m P S Q B → i < 1000 →
    ∃ m' S' Q' B', fX7_touchedBy_136 N r111 n 79 c (zN i) (zN f) (zN k') m = r111 79 c (zN (i + 1)) m' ∧ vcf m m' ∧ vC m' P S' Q' B' ∧ vA S Q B S' Q' B' (fun v => ∃ d ∈ l, zDd d v) (fun g => ∃ d ∈ l, zCl d.1 g) := by
  intro l
  induction l with
  | nil =>
    intro n k' m S Q B hn hk h7 h6 _ _ hU hC hi
    obtain ⟨n, rfl⟩ : ∃ j, n = j + 1 := ⟨n - 1, by simp at hn; omega⟩
    simp only [List.length_nil] at hk
    have h84 := (zok_84 hU.2.2.2.1 hf).1
    obtain ⟨⟨-, -, -, -, -, u6, u7, -⟩, -, -, -, ⟨-, -, -, -, -, r6, r7, -⟩, -, -⟩ := id hU
    refine ⟨m, S, Q, B, ?_, vcf_rf m, hC, ⟨[], (List.append_nil _).symm⟩, fun g => ⟨Or.inl, fun h => h.elim id (fun ⟨d, h, _⟩ => (by cases h))⟩, fun v _ => ⟨Or.inl, fun h => h.elim id (fun ⟨d, h, _⟩ => (by cases h))⟩⟩
    unfold fX7_touchedBy_136
    simp (disch := omega) only [zv, zgr r7, zgr r6, zald, h7, h6, zN_add, zN_lt, zN_lit]
    rw [if_pos (by omega)]
  | cons d l ih =>
    intro n k' m S Q B hn hk h7 h6 hds hok hU hC hi
    simp only [List.length_cons] at hn hk
    obtain ⟨n, rfl⟩ : ∃ j, n = j + 1 := ⟨n - 1, by omega⟩
    have h84 := (zok_84 hU.2.2.2.1 hf).1
    have hU0 := hU
    obtain ⟨⟨-, -, -, -, -, u6, u7, -⟩, -, h79, -, ⟨-, -, -, -, -, r6, r7, -, -, -, -, r13, -⟩, -, -⟩ := id hU
    obtain ⟨m1, S1, Q1, B1, b1, b2, b3, b4⟩ := vc_deed (N := N) (hok d List.mem_cons_self) hds.1 hU0 hC
    have e1 : ∀ a j, c ≤ a → a < c + 18 → gi m1 a j = gi m a j := fun a j _ _ => b2.1 a j (by omega) (by omega) (by omega)
    obtain ⟨m2, S2, Q2, B2, d1, d2, d3, d4⟩ := ih n (k' + 1) m1 S1 Q1 B1 (by omega) (by omega) (by rw [e1 _ _ (by omega) (by omega)]; exact h7) (by rw [e1 _ _ (by omega) (by omega)]; exact h6) (zdats_v h79 b2 hds.2) (fun e he => hok e (List.mem_cons_of_mem _ he)) (vU_f hU0 b2) b3 hi
    refine ⟨m2, S2, Q2, B2, ?_, vcf_tr b2 d2, d3, vA_tr b4 d4 (fun v => ?_) (fun v => ?_)⟩
    · unfold fX7_touchedBy_136
      simp (disch := omega) only [zv, zgr r7, zgr r6, zald, h7, h6, zN_add, zN_lt, zN_lit, zgr r13, b1, zcv]
      rw [if_neg (by omega)]
      exact d1
    · constructor
      · rintro ⟨e, h, h'⟩
        rcases List.mem_cons.mp h with g | g
        · rw [g] at h'; exact Or.inl h'
        · exact Or.inr ⟨e, g, h'⟩
      · rintro (h | ⟨e, h, h'⟩)
        · exact ⟨d, List.mem_cons_self, h⟩
        · exact ⟨e, List.mem_cons_of_mem _ h, h'⟩
    · constructor
      · rintro ⟨e, h, h'⟩
        rcases List.mem_cons.mp h with g | g
        · rw [g] at h'; exact Or.inl h'
        · exact Or.inr ⟨e, g, h'⟩
      · rintro (h | ⟨e, h, h'⟩)
        · exact ⟨d, List.mem_cons_self, h⟩
        · exact ⟨e, List.mem_cons_of_mem _ h, h'⟩
/-- the functions that were noted, one after another -/
theorem vc_pend_111 (hw : zwf P) {D0 C0 : Nat → Prop} : ∀ (d n i : Nat) (m : XM) (S : Nat → Bool) (Q : List Nat) (B : Nat), d < n → i + d = 85 → i ≤ Q.length → vU N m c P → vC m P S Q B →
    (∀ v, v < 7 → (zbi B v ↔ (D0 v ∨ ∃ f ∈ Q.take i, zDf P f v))) → (∀ f, S f = true ↔ (C0 f ∨ ∃ g ∈ Q.take i, zCf P g f)) → (∀ f ∈ Q, zRe P C0 f) →
    ∃ m' B', fX7_touchedBy_111 N n 79 c (zN i) m = some (zN B', m') ∧ vcf m m' ∧ B' < 128 ∧ ∀ v, v < 7 → (zbi B' v ↔ (D0 v ∨ ∃ f, zRe P C0 f ∧ zDf P f v)) := by
  intro d
  induction d with
  | zero =>
    intro n i m S Q B hn hi hiQ hU hC _ _ _
    have h1 := zct_le S 84
    have h2 := hC.2.2.2.2.2.1
    omega
  | succ d ih =>
    intro n i m S Q B hn hi hiQ hU hC hB hS hRe
    obtain ⟨n, rfl⟩ : ∃ j, n = j + 1 := ⟨n - 1, by omega⟩
    have hC0 := hC
    obtain ⟨h3, h4, h82, h83, hSQ, hct, hok, hB128⟩ := hC
    have hle := zct_le S 84
    have hU0 := hU
    obtain ⟨⟨-, -, -, -, -, u6, u7, -⟩, ⟨-, -, n82, -⟩, h79, -, ⟨-, -, -, -, -, r6, r7, -⟩, ⟨-, -, -, hd4, -, hd6, -⟩, ⟨-, -, g5, -⟩⟩ := id hU
    unfold fX7_touchedBy_111
    have hX := zXF
    revert hX
    generalize XF = nf
    intro hX
    by_cases e : Q.length ≤ i
    · have hi' : i = Q.length := by omega
      refine ⟨m, B, ?_, vcf_rf m, hB128, fun v hv => ?_⟩
      · simp (disch := omega) only [zv, h4, zN_le, h3]
        rw [if_pos e]
      · rw [hB v hv, hi', List.take_length]
        rw [hi', List.take_length] at hS
        constructor
        · rintro (h | ⟨f, h, h'⟩)
          · exact Or.inl h
          · exact Or.inr ⟨f, hRe f h, h'⟩
        · rintro (h | ⟨f, h, h'⟩)
          · exact Or.inl h
          · refine Or.inr ⟨f, ?_, h'⟩
            exact h (fun f => f ∈ Q) (fun g hg => (hSQ g).1 ((hS g).2 (Or.inl hg))) (fun g k hg hk => (hSQ k).1 ((hS k).2 (Or.inr ⟨g, hg, hk⟩)))
    · have hiQ' : i < Q.length := by omega
      have hg := List.getElem?_eq_getElem hiQ'
      generalize hf : Q[i] = f at hg
      have hfQ : f ∈ Q := by rw [← hf]; exact List.getElem_mem hiQ'
      obtain ⟨hfo, hfk⟩ := hok f hfQ
      have h84 := (zok_84 hw hfo).1
      have hrow := h82 i f hg
      obtain ⟨k, k1, k2, k3⟩ := (hd6 f hfo).2 hfk
      have h6 := (hd4 f hfo).2.2.1
      rw [k3] at h6
      simp only [zopt] at h6
      obtain ⟨-, ⟨l0, dl, hl0⟩, -⟩ := (hw.2.2.1 f hfo).2.2.2.1 hfk
      have hlen : 1 ≤ (zfun P f).length := by rw [hl0]; simp
      have hkl : k + (zfun P f).length ≤ 300 := by
        have key : ∀ (l : List zDeed) (d : Nat), zdats m c d l → l ≠ [] → d + l.length ≤ 300 := by
          intro l
          induction l with
          | nil => intro d _ h; exact absurd rfl h
          | cons e l ih =>
            intro d hd _
            by_cases he : l = []
            · subst he; have := hd.1.1; simp; omega
            · have := ih (d + 1) hd.2 he; simp; omega
        exact key _ _ k2 (by rw [hl0]; simp)
      obtain ⟨m1, S1, Q1, B1, b1, b2, b3, b4⟩ := vc_fun_136 (N := N) (c := c) (r111 := fun q0 q1 x3 m0 => fX7_touchedBy_111 N n q0 q1 x3 m0) (i := i) hfo hlen hkl (zfun P f) nf k m S Q B (by omega) rfl k1 h6 k2 (hw.2.2.1 f hfo).2.2.1 hU0 hC0 (by omega)
      obtain ⟨⟨t, ht⟩, b5, b6⟩ := b4
      have htk : Q1.take (i + 1) = Q.take i ++ [f] := by
        rw [ht, List.take_append_of_le_length (by omega), List.take_add_one, hg]; rfl
      obtain ⟨m2, B2, d1, d2, d3, d4⟩ := ih n (i + 1) m1 S1 Q1 B1 (by omega) (by omega) (by rw [ht]; simp; omega) (vU_f hU0 b2) b3 (fun v hv => by
        rw [b6 v hv, hB v hv, htk]
        constructor
        · rintro ((h | ⟨g, h, h'⟩) | h)
          · exact Or.inl h
          · exact Or.inr ⟨g, List.mem_append_left _ h, h'⟩
          · exact Or.inr ⟨f, List.mem_append_right _ List.mem_cons_self, h⟩
        · rintro (h | ⟨g, h, h'⟩)
          · exact Or.inl (Or.inl h)
          · rcases List.mem_append.mp h with q | q
            · exact Or.inl (Or.inr ⟨g, q, h'⟩)
            · rw [List.mem_singleton.mp q] at h'; exact Or.inr h') (fun g => by
        rw [b5, hS, htk]
        constructor
        · rintro ((h | ⟨x, h, h'⟩) | h)
          · exact Or.inl h
          · exact Or.inr ⟨x, List.mem_append_left _ h, h'⟩
          · exact Or.inr ⟨f, List.mem_append_right _ List.mem_cons_self, h⟩
        · rintro (h | ⟨x, h, h'⟩)
          · exact Or.inl (Or.inl h)
          · rcases List.mem_append.mp h with q | q
            · exact Or.inl (Or.inr ⟨x, q, h'⟩)
            · rw [List.mem_singleton.mp q] at h'; exact Or.inr h') (fun g hg' => by
        have hs1 : S1 g = true := (b3.2.2.2.2.1 g).2 hg'
        rcases (b5 g).1 hs1 with h | h
        · exact hRe g ((hSQ g).1 h)
        · exact zRe_step (hRe f hfQ) h)
      refine ⟨m2, B2, ?_, vcf_tr b2 d2, d3, d4⟩
      simp (disch := omega) only [zv, h4, zN_le, zgr g5, zald, hrow, zgr r7, k1]
      rw [if_neg e, b1]
      exact d1
/-- members from j on -/
def zMj (P : zP) (u j x : Nat) (d : zDeed) : Prop := zMs P u x d ∧ 12 * u + j ≤ x
theorem vc_mem_44 (hw : zwf P) {u : Nat} (hun : u < zn P) {D0 C0 : Nat → Prop} (hfin : ∀ (m : XM) (S : Nat → Bool) (Q : List Nat) (B : Nat), vU N m c P → vC m P S Q B → (∀ v, v < 7 → (zbi B v ↔ D0 v)) → (∀ f, S f = true ↔ C0 f) → ∃ m' B', fX7_touchedBy_111 N XF 79 c (zN 0) m = some (zN B', m') ∧ vcf m m' ∧ B' < 128 ∧ ∀ v, v < 7 → (zbi B' v ↔ (D0 v ∨ ∃ f, zRe P C0 f ∧ zDf P f v))) : ∀ (d n j : Nat) (m : XM) (S : Nat → Bool) (Q : List Nat) (B : Nat), d < n → j + d = zcnt P u → vU N m c P → vC m P S Q B → (∀ v, v < 7 → (D0 v ↔ (zbi B v ∨ ∃ x d, zMj P u j x d ∧ zDd d v))) → (∀ f, C0 f ↔ (S f = true ∨ ∃ x d, zMj P u j x d ∧ zCl d.1 f)) →
    ∃ m' B', fX7_touchedBy_44 N n 79 c (zN u) (zN (12 * u + j)) m = some (zN B', m') ∧ vcf m m' ∧ B' < 128 ∧ ∀ v, v < 7 → (zbi B' v ↔ (D0 v ∨ ∃ f, zRe P C0 f ∧ zDf P f v)) := by
  have hz := hw.1
  have hcn := (hw.2.1 u hun).1
  intro d
  induction d with
  | zero =>
    intro n j m S Q B hn hj hU hC hD hCC
    obtain ⟨n, rfl⟩ : ∃ k, n = k + 1 := ⟨n - 1, by omega⟩
    obtain ⟨⟨-, -, u3, -⟩, -, -, -, ⟨-, -, r3, -⟩, ⟨-, -, hd3, -⟩, -⟩ := id hU
    have hc := (hd3 u hun).2.2
    have hnone : ∀ x d, ¬ zMj P u j x d := fun x d h => by
      have h1 := h.2
      have h2 := h.1.2.1
      have h3 := h.1.1.2
      rw [h2] at h3
      omega
    obtain ⟨m', B', p1, p2, p3, p4⟩ := hfin m S Q B hU hC (fun v hv => by
      rw [hD v hv]
      exact ⟨Or.inl, fun h => h.elim id (fun ⟨x, d, h, _⟩ => absurd h (hnone x d))⟩) (fun f => by
      rw [hCC]
      exact ⟨Or.inl, fun h => h.elim id (fun ⟨x, d, h, _⟩ => absurd h (hnone x d))⟩)
    refine ⟨m', B', ?_, p2, p3, p4⟩
    rw [← p1]
    unfold fX7_touchedBy_44
    generalize XF = nf
    simp (disch := omega) only [zv, zN_lit, zN_mul, zgr r3, zald, hc, zN_add, zN_le]
    rw [if_pos (by omega)]
  | succ d ih =>
    intro n j m S Q B hn hj hU hC hD hCC
    obtain ⟨n, rfl⟩ : ∃ k, n = k + 1 := ⟨n - 1, by omega⟩
    have hU0 := hU
    obtain ⟨⟨-, -, u3, u4, -, -, u7, u8, -⟩, -, h79, -, ⟨-, -, r3, r4, -, -, r7, r8, -, -, -, r13, -⟩, ⟨-, -, hd3, hd4, -, hd6, -⟩, -⟩ := id hU
    have hc := (hd3 u hun).2.2
    have hx : zok P (12 * u + j) := ⟨by omega, by rw [show (12 * u + j) / 12 = u by omega]; omega⟩
    have hxu : (12 * u + j) / 12 = u := by omega
    obtain ⟨e4, -, -, e8⟩ := hd4 _ hx
    have hw3 := hw.2.2.1 _ hx
    have hsplit : ∀ y d, zMj P u j y d ↔ (zMs P u y d ∧ y = 12 * u + j ∨ zMj P u (j + 1) y d) := fun y d => by
      constructor
      · rintro ⟨h, h'⟩
        by_cases e : y = 12 * u + j
        · exact Or.inl ⟨h, e⟩
        · exact Or.inr ⟨h, by omega⟩
      · rintro (⟨h, e⟩ | ⟨h, h'⟩)
        · exact ⟨h, by omega⟩
        · exact ⟨h, by omega⟩
    have hskip : (∀ d, ¬ zMs P u (12 * u + j) d) → ∃ m' B', fX7_touchedBy_44 N n 79 c (zN u) (zN (12 * u + (j + 1))) m = some (zN B', m') ∧ vcf m m' ∧ B' < 128 ∧ ∀ v, v < 7 → (zbi B' v ↔ (D0 v ∨ ∃ f, zRe P C0 f ∧ zDf P f v)) := fun hno =>
      ih n (j + 1) m S Q B (by omega) (by omega) hU0 hC (fun v hv => by
        rw [hD v hv]
        constructor
        · rintro (h | ⟨y, d, h, h'⟩)
          · exact Or.inl h
          · rcases (hsplit y d).1 h with ⟨q1, q2⟩ | q
            · rw [q2] at q1; exact absurd q1 (hno d)
            · exact Or.inr ⟨y, d, q, h'⟩
        · rintro (h | ⟨y, d, h, h'⟩)
          · exact Or.inl h
          · exact Or.inr ⟨y, d, (hsplit y d).2 (Or.inr h), h'⟩) (fun f => by
        rw [hCC]
        constructor
        · rintro (h | ⟨y, d, h, h'⟩)
          · exact Or.inl h
          · rcases (hsplit y d).1 h with ⟨q1, q2⟩ | q
            · rw [q2] at q1; exact absurd q1 (hno d)
            · exact Or.inr ⟨y, d, q, h'⟩
        · rintro (h | ⟨y, d, h, h'⟩)
          · exact Or.inl h
          · exact Or.inr ⟨y, d, (hsplit y d).2 (Or.inr h), h'⟩)
    have hlt : ¬ u * 12 + zcnt P u ≤ 12 * u + j := by omega
    unfold fX7_touchedBy_44 fX7_touchedBy_103
    generalize XF = nf
    have hk4 := hw3.1
    simp (disch := omega) only [zv, zN_lit, zN_mul, zgr r3, zald, hc, zN_add, zN_le, hlt, if_false, zgr r8, e8, zgr r4, e4, zgr r7, zN_eq]
    by_cases hon : zon P (12 * u + j) = true
    · simp only [hon, if_true]
      by_cases hk : zknd P (12 * u + j) = 4
      · rw [if_pos hk]
        exact hskip (fun d h => h.2.2.2.1 hk)
      · rw [if_neg hk]
        obtain ⟨h61, h62⟩ := (hd6 _ hx).1 hk
        cases hi : zini P (12 * u + j) with
        | none =>
          rw [h61 hi]
          simp only [zneg, if_true]
          exact hskip (fun d h => by have h5 := h.2.2.2.2; rw [hi] at h5; cases h5)
        | some de =>
          obtain ⟨k, k1, k2⟩ := h62 de hi
          have hk300 := k2.1
          rw [k1]
          obtain ⟨m1, S1, Q1, B1, b1, b2, b3, b4⟩ := vc_deed (N := N) (hw3.2.1 de hi) k2 hU0 hC
          simp (disch := omega) only [zneg, zN_m, if_false, zgr r13, b1, zcv]
          have hde : zMs P u (12 * u + j) de := ⟨hx, hxu, hon, hk, hi⟩
          obtain ⟨-, b5, b6⟩ := b4
          obtain ⟨m', B', p1, p2, p3⟩ := ih n (j + 1) m1 S1 Q1 B1 (by omega) (by omega) (vU_f hU0 b2) b3 (fun v hv => by
            rw [hD v hv, b6 v hv, or_assoc]
            constructor
            · rintro (h | ⟨y, d, h, h'⟩)
              · exact Or.inl h
              · rcases (hsplit y d).1 h with ⟨q1, q2⟩ | q
                · rw [q2] at q1
                  have : d = de := by have e1 := q1.2.2.2.2; rw [hi] at e1; injection e1 with e1; exact e1.symm
                  rw [this] at h'; exact Or.inr (Or.inl h')
                · exact Or.inr (Or.inr ⟨y, d, q, h'⟩)
            · rintro (h | h | ⟨y, d, h, h'⟩)
              · exact Or.inl h
              · exact Or.inr ⟨_, de, (hsplit _ de).2 (Or.inl ⟨hde, rfl⟩), h⟩
              · exact Or.inr ⟨y, d, (hsplit y d).2 (Or.inr h), h'⟩) (fun f => by
            rw [hCC, b5, or_assoc]
            constructor
            · rintro (h | ⟨y, d, h, h'⟩)
              · exact Or.inl h
              · rcases (hsplit y d).1 h with ⟨q1, q2⟩ | q
                · rw [q2] at q1
                  have : d = de := by have e1 := q1.2.2.2.2; rw [hi] at e1; injection e1 with e1; exact e1.symm
                  rw [this] at h'; exact Or.inr (Or.inl h')
                · exact Or.inr (Or.inr ⟨y, d, q, h'⟩)
            · rintro (h | h | ⟨y, d, h, h'⟩)
              · exact Or.inl h
              · exact Or.inr ⟨_, de, (hsplit _ de).2 (Or.inl ⟨hde, rfl⟩), h⟩
              · exact Or.inr ⟨y, d, (hsplit y d).2 (Or.inr h), h'⟩)
          exact ⟨m', B', p1, vcf_tr b2 p2, p3⟩
    · simp only [hon, Bool.false_eq_true, if_false, zN10, zN_eq]
      have h01 : (zN 0 = zN 1) = False := by rw [zN_eq (by omega) (by omega)]; exact propext ⟨fun h => (by omega), fun h => h.elim⟩
      simp only [h01, if_false]
      exact hskip (fun d h => hon h.2.2.1)
theorem vc_touchedBy (hw : zwf P) {u : Nat} {m : XM} (hun : u < zn P) (hU : vU N m c P) : ∃ m', fX7_touchedBy N 79 c (zN u) m = some (zN (zB P u), m') ∧ vcf m m' := by
  have hz := hw.1
  have hcn := (hw.2.1 u hun).1
  have hU0 := hU
  obtain ⟨⟨-, u2, -⟩, ⟨-, -, -, n83, -⟩, h79, -, ⟨-, r2, -⟩, ⟨-, -, hd3, -⟩, ⟨-, -, -, g6, -⟩⟩ := id hU
  have hab := (hd3 u hun).2.1
  have hgo : ∀ B, B < 128 → (∀ v, v < 7 → (zbi B v ↔ zabv P u = some v)) → ∃ m', fX7_touchedBy_23 N 79 c (zN u) 79 (zN B) m = some (zN (zB P u), m') ∧ vcf m m' := fun B hB128 hB => by
    have f1 : vcf m (si (si m 79 3 (zN B)) 79 4 (zN 0)) := vcf_si (vcf_si (vcf_rf m) (by omega)) (by omega)
    obtain ⟨m1, a1, a2, a3, a4⟩ := zc_fill (N := N) (a := 83) (v := zN 0) (si (si m 79 3 (zN B)) 79 4 (zN 0)) n83 (by omega)
    have f2 : vcf (si (si m 79 3 (zN B)) 79 4 (zN 0)) m1 := ⟨fun a k q1 q2 _ => (a2 a (by omega)).1 k, fun a k e => (a2 a (by omega)).2.1 k, fun a k => by
      by_cases e : a = 83
      · rw [e]; exact a3 k
      · exact (a2 a (by omega)).2.2 k⟩
    have hC1 : vC m1 P (fun _ => false) [] B := by
      refine ⟨?_, ?_, fun i f hf => (by simp at hf), fun f hf => ?_, fun f => ⟨fun h => (by cases h), fun h => (by cases h)⟩, by decide, fun f hf => (by cases hf), hB128⟩
      · rw [(a2 79 (by omega)).1, gi_ne (by omega), gi_si]
      · rw [(a2 79 (by omega)).1, gi_si]; rfl
      · rw [a4, if_pos hf]; rfl
    have hU1 := vU_f (vU_f hU0 f1) f2
    obtain ⟨m2, B2, d1, d2, d3, d4⟩ := vc_mem_44 (N := N) (c := c) hw hun (D0 := fun v => zabv P u = some v ∨ zDm P u v) (C0 := zCm P u) (fun m S Q B hU hC hD hS => by
      obtain ⟨m', B', p1, p2, p3, p4⟩ := vc_pend_111 (N := N) (c := c) hw (D0 := fun v => zabv P u = some v ∨ zDm P u v) (C0 := zCm P u) 85 XF 0 m S Q B (by have := zXF; omega) (by omega) (Nat.zero_le _) hU hC (fun v hv => by
        rw [hD v hv, List.take_zero]
        exact ⟨Or.inl, fun h => h.elim id (fun ⟨f, h, _⟩ => (by cases h))⟩) (fun f => by
        rw [hS, List.take_zero]
        exact ⟨Or.inl, fun h => h.elim id (fun ⟨f, h, _⟩ => (by cases h))⟩) (fun f hf => zRe_in ((hS f).1 ((hC.2.2.2.2.1 f).2 hf)))
      exact ⟨m', B', p1, p2, p3, p4⟩) (zcnt P u) XF 0 m1 (fun _ => false) [] B (by have := zXF; omega) (by omega) hU1 hC1 (fun v hv => by
        rw [hB v hv]
        constructor
        · rintro (h | ⟨x, d, h, h'⟩)
          · exact Or.inl h
          · refine Or.inr ⟨x, d, ⟨h, ?_⟩, h'⟩
            have := h.2.1
            omega
        · rintro (h | ⟨x, d, h, h'⟩)
          · exact Or.inl h
          · exact Or.inr ⟨x, d, h.1, h'⟩) (fun f => by
        constructor
        · rintro ⟨x, d, h, h'⟩
          refine Or.inr ⟨x, d, ⟨h, ?_⟩, h'⟩
          have := h.2.1
          omega
        · rintro (h | ⟨x, d, h, h'⟩)
          · cases h
          · exact ⟨x, d, h.1, h'⟩)
    refine ⟨m2, ?_, vcf_tr f1 (vcf_tr f2 d2)⟩
    have hBe : B2 = zB P u := zmk7_eq d3 (fun v hv => by
      rw [d4 v hv]
      unfold zTo
      rw [or_assoc])
    rw [← hBe]
    unfold fX7_touchedBy_23
    generalize XF = nf at d1 ⊢
    simp (disch := omega) only [zv, zN_lit, zgr_si, zgr g6, a1, zcv, zN_mul]
    rw [← d1, Nat.add_zero, Nat.mul_comm]
  unfold fX7_touchedBy
  simp (disch := omega) only [zgr r2, zald, hab, zN_lit, zneg]
  cases ha : zabv P u with
  | none =>
    simp only [zopt, if_true]
    refine hgo 0 (by omega) (fun v _ => ?_)
    rw [ha]
    exact ⟨fun h => absurd h (zbi_0 v), fun h => (by cases h)⟩
  | some a =>
    have ha7 := (hw.2.1 u hun).2.2.1 a ha
    simp (disch := omega) only [zopt, zN_m, if_false, zv, wb_one]
    refine hgo (2 ^ a) (vB_1 (P := P) (S := fun _ => false) (by omega)).2.2.2.1 (fun v _ => ?_)
    rw [ha, zbi_pow]
    exact ⟨fun h => by rw [h], fun h => by injection h⟩
end VE
