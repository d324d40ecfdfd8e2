/-! ===== v: the reference looks through ===== -/
section VB
variable {N : Nat → Nat} {P : zP} {K : Nat → Int32} {R : Nat → Nat → Int32 → XM → Option (Int32 × XM)}
/-- what is seen stands in its row; nothing else changes -/
def vS (m : XM) (P : zP) (S : Nat → Bool) : Prop := ∀ x, zok P x → gi m 109 (zmid P x) = if S x then zN 1 else zN 0
def vfr (m m' : XM) : Prop := (∀ a k, a ≠ 109 → gi m' a k = gi m a k) ∧ (∀ a k, gl m' a k = gl m a k) ∧ ∀ a k, gr m' a k = gr m a k
theorem vfr_rf (m : XM) : vfr m m := ⟨fun _ _ _ => rfl, fun _ _ => rfl, fun _ _ => rfl⟩
theorem vfr_tr {m m1 m2 : XM} (h : vfr m m1) (g : vfr m1 m2) : vfr m m2 := ⟨fun a k q => (g.1 a k q).trans (h.1 a k q), fun a k => (g.2.1 a k).trans (h.2.1 a k), fun a k => (g.2.2 a k).trans (h.2.2 a k)⟩
theorem vfr_si {m m1 : XM} {k : Nat} {v : Int32} (h : vfr m m1) : vfr m (si m1 109 k v) := ⟨fun a j q => by rw [gi_ne (by omega)]; exact h.1 a j q, fun a j => h.2.1 a j, fun a j => h.2.2 a j⟩
theorem yW_v {m m' : XM} (h : yW N K m P) (g : vfr m m') : yW N K m' P :=
  ⟨⟨h.1.1, yR_fr (fun k => g.2.2 85 k) h.1.2.1, h.1.2.2.1, yMP_fr (fun k => g.1 88 k (by omega)) (fun k => g.1 90 k (by omega)) h.1.2.2.2⟩, (funext fun k => g.1 88 k (by omega)).trans h.2⟩
/-- a look-through is as it should be -/
def vQ (P : zP) (m : XM) (S : Nat → Bool) (D C : Nat → Prop) (o : Option (Int32 × XM)) : Prop := ∃ B m' S', o = some (zN B, m') ∧ vfr m m' ∧ vS m' P S' ∧ vB P S S' B D C
def vQs (N : Nat → Nat) (K : Nat → Int32) (P : zP) (R : Nat → Nat → Int32 → XM → Option (Int32 × XM)) (n c : Nat) : Prop := ∀ m S f l, ySm K (yTm K P n) f l → ycok P l → yW N K m P → vS m P S → c ≤ zct S 84 → vQ P m S (zDl l) (zCl l) (R 0 85 (zN f) m)
def vQf (N : Nat → Nat) (K : Nat → Int32) (P : zP) (R : Nat → Nat → Int32 → XM → Option (Int32 × XM)) (c : Nat) : Prop := ∀ m S x, zok P x → zknd P x = 4 → yW N K m P → vS m P S → c ≤ zct S 84 → vQ P m S (fun _ => False) (fun g => g = x) (R 2 85 (zN (zmid P x)) m)
def vQa (N : Nat → Nat) (K : Nat → Int32) (P : zP) (R : Nat → Nat → Int32 → XM → Option (Int32 × XM)) (c : Nat) : Prop := ∀ m S a d, yact K P a d → zdok P d → yW N K m P → vS m P S → c ≤ zct S 84 → vQ P m S (zDd d) (zCl d.1) (R 1 85 (zN a) m)
theorem vB_ct {S S' : Nat → Bool} {B : Nat} {D C : Nat → Prop} (h : vB P S S' B D C) (n : Nat) : zct S n ≤ zct S' n := zct_mono h.1 n
theorem vor {a b : Nat} (ha : a < 128) (hb : b < 128) : zN a ||| zN b = zN (a ||| b) := wb_or a ha b hb
/-- a term: what it adds, and on to the next -/
theorem vq_term {c n : Nat} (hf : vQf N K P R c) (hs : vQs N K P R n c) {t : Nat} {l : List zCode} {m : XM} {S S0 : Nat → Bool} {B : Nat} {D C : Nat → Prop} (ht : yTm K P (n + 1) t l) (hl : ycok P l) (hW : yW N K m P) (hS : vS m P S) (hc : c ≤ zct S 84) (hB : vB P S0 S B D C) (g : Nat) :
    ∃ B' m' S', (fX9_bySum_4 N R (g + 1) 85 (zN B) (zN t) m = xca (fX9_ofTerm N 88 (zN t) (zN 4) m') fun v3 m2 => fX9_bySum_4 N R g 85 (zN B') v3 m2) ∧ vfr m m' ∧ vS m' P S' ∧ vB P S0 S' B' (fun v => D v ∨ zDl l v) (fun f => C f ∨ zCl l f) ∧ zct S 84 ≤ zct S' 84 := by
  obtain ⟨t400, ht⟩ := ht
  have hwf := hW.1.2.2.1
  have hz := hwf.1
  obtain ⟨⟨⟨-, -, n88, -⟩, ⟨-, -, g9, -⟩, -, ⟨-, -, -, -, hMm, -⟩⟩, hK⟩ := id hW
  have hK' : ∀ j, gi m 88 j = K j := fun j => congrFun hK j
  rw [hK] at hMm
  have hB128 := hB.2.2.2.1
  have e1 := yo_term (m := m) (a := 88) (x := t) (w := 1) n88 t400 (by omega)
  have e2 := yo_term (m := m) (a := 88) (x := t) (w := 2) n88 t400 (by omega)
  have e3 := yo_term (m := m) (a := 88) (x := t) (w := 3) n88 t400 (by omega)
  rw [hK'] at e1 e2 e3
  have hne1 : (zN t = zM) = False := zN_m (by omega)
  have hstep : fX9_bySum_4 N R (g + 1) 85 (zN B) (zN t) m = if K (1410 + 6 * t + 1) = zN 4 then (xca (R 0 85 (K (1410 + 6 * t + 2)) m) fun v11 m10 => fX9_bySum_57 N R (fun q0 x2 x3 m0 => fX9_bySum_4 N R g q0 x2 x3 m0) 85 (zN B ||| v11) (zN t) (K (1410 + 6 * t + 1)) (K (1410 + 6 * t + 2)) (K (1410 + 6 * t + 3)) m10) else (fX9_bySum_57 N R (fun q0 x2 x3 m0 => fX9_bySum_4 N R g q0 x2 x3 m0) 85 (zN B) (zN t) (K (1410 + 6 * t + 1)) (K (1410 + 6 * t + 2)) (K (1410 + 6 * t + 3)) m) := by
    rw [fX9_bySum_4]
    simp only [zv, zN_lit, zneg, hne1, if_false, zgr g9, e1, e2, e3, zca]
  rw [hstep]
  rcases ht with ⟨q, rfl, hq⟩ | ⟨e4, f, e5, hfm⟩
  · rcases hq with ⟨a1, a2, a3⟩ | ⟨a1, a2⟩ | ⟨a1, a2, x, x1, x2, x3, x4⟩ | ⟨a1, a2, a3, a4⟩
    · refine ⟨B, m, S, ?_, vfr_rf m, hS, vB_iff hB (fun v => ?_) (fun v => ?_), Nat.le_refl _⟩
      · unfold fX9_bySum_57 fX9_bySum_84 fX9_bySum_104
        simp (disch := omega) only [a1, zN_eq, zN_lit, Nat.reduceEqDiff, if_false, zgr g9]
      · rw [zDl_one]; constructor
        · rintro (h | h); exact h; omega
        · exact fun h => Or.inl h
      · rw [zCl_one]; constructor
        · rintro (h | h); exact h; omega
        · exact fun h => Or.inl h
    · refine ⟨B, m, S, ?_, vfr_rf m, hS, vB_iff hB (fun v => ?_) (fun v => ?_), Nat.le_refl _⟩
      · unfold fX9_bySum_57 fX9_bySum_84 fX9_bySum_104
        simp (disch := omega) only [a1, zN_eq, zN_lit, Nat.reduceEqDiff, if_false, zgr g9]
      · rw [zDl_one]; constructor
        · rintro (h | h); exact h; omega
        · exact fun h => Or.inl h
      · rw [zCl_one]; constructor
        · rintro (h | h); exact h; omega
        · exact fun h => Or.inl h
    · have hx := zmid_lt hwf x1
      have hk0 := (hMm x x1).1.1
      rw [x2] at hk0
      have e0 := yo_mem (m := m) (a := 88) (x := zmid P x) (w := 0) n88 (by omega) (by omega)
      rw [Nat.add_zero, hK', hk0] at e0
      refine ⟨B, m, S, ?_, vfr_rf m, hS, vB_iff hB (fun v => ?_) (fun v => ?_), Nat.le_refl _⟩
      · unfold fX9_bySum_57 fX9_bySum_84 fX9_bySum_104
        have h14 : ¬ (1 : Nat) = 4 := by omega
        have h12 : ¬ (1 : Nat) = 2 := by omega
        have h01 : ¬ (0 : Nat) = 1 := by omega
        simp (disch := omega) only [a1, zN_eq, zN_lit, h14, h12, h01, if_false, if_true, zgr g9, x3, e0, zca]
      · rw [zDl_one]; constructor
        · rintro (h | h); exact h; omega
        · exact fun h => Or.inl h
      · rw [zCl_one]; constructor
        · rintro (h | h); exact h; omega
        · exact fun h => Or.inl h
    · have hx : zok P q.2 := by
        rcases a2 with e | e
        · exact ((hl q List.mem_cons_self).1 e).1
        · exact ((hl q List.mem_cons_self).2 e).1
      have hxm := zmid_lt hwf hx
      have hx7 := (zok_84 hwf hx).2
      have hp := wb_one (q.2 / 12) (by omega)
      have hp128 : 2 ^ (q.2 / 12) < 128 := (vB_1 (P := P) (S := S) hx7).2.2.2.1
      rcases a2 with e | e
      · have hk1 := ((hl q List.mem_cons_self).1 e).2
        have hk0 := (hMm q.2 hx).1.1
        rw [hk1] at hk0
        have e0 := yo_mem (m := m) (a := 88) (x := zmid P q.2) (w := 0) n88 (by omega) (by omega)
        rw [Nat.add_zero, hK', hk0] at e0
        refine ⟨B ||| 2 ^ (q.2 / 12), m, S, ?_, vfr_rf m, hS, vB_tr hB (vB_1 hx7) (fun v => ?_) (fun v => ?_), Nat.le_refl _⟩
        · unfold fX9_bySum_57 fX9_bySum_84 fX9_bySum_104
          have h14 : ¬ (1 : Nat) = 4 := by omega
          have h12 : ¬ (1 : Nat) = 2 := by omega
          simp (disch := omega) only [a1, e, zN_eq, zN_lit, h14, h12, if_false, if_true, zgr g9, a4, a3, e0, zca, zv, hp, vor]
        · rw [zDl_one]; constructor
          · rintro (h | ⟨-, h⟩); exact Or.inl h; exact Or.inr h
          · rintro (h | h); exact Or.inl h; exact Or.inr ⟨Or.inl e, h⟩
        · rw [zCl_one]; constructor
          · rintro (h | ⟨h, -⟩); exact Or.inl h; omega
          · rintro (h | h); exact Or.inl h; exact h.elim
      · have hk4 := ((hl q List.mem_cons_self).2 e).2
        obtain ⟨B2, m2, S2, b1, b2, b3, b4⟩ := hf m S q.2 hx hk4 hW hS hc
        have hB2 := b4.2.2.2.1
        obtain ⟨o1, -⟩ := zbi_or (2 ^ (q.2 / 12)) hp128 B2 hB2
        have hfun := vB_tr (vB_1 (P := P) (S := S) hx7) b4 (D := fun v => q.2 / 12 = v) (C := fun f => f = q.2) (fun v => ⟨fun h => Or.inl h, fun h => h.elim id (fun h => h.elim)⟩) (fun v => ⟨fun h => Or.inr h, fun h => h.elim (fun h => h.elim) id⟩)
        obtain ⟨⟨-, ⟨-, -, g9', -⟩, -⟩, -⟩ := yW_v hW b2
        refine ⟨B ||| (2 ^ (q.2 / 12) ||| B2), m2, S2, ?_, b2, b3, vB_tr hB hfun (fun v => ?_) (fun v => ?_), vB_ct b4 84⟩
        · unfold fX9_bySum_57 fX9_bySum_84 fX9_bySum_104
          have h14 : ¬ (2 : Nat) = 4 := by omega
          have h12 : ¬ (2 : Nat) = 1 := by omega
          simp (disch := omega) only [a1, e, zN_eq, zN_lit, h14, h12, if_false, if_true, a4, a3, zca, zv, hp, b1, vor, zgr g9']
        · rw [zDl_one]; constructor
          · rintro (h | ⟨-, h⟩); exact Or.inl h; exact Or.inr h
          · rintro (h | h); exact Or.inl h; exact Or.inr ⟨Or.inr e, h⟩
        · rw [zCl_one]; constructor
          · rintro (h | ⟨-, h⟩); exact Or.inl h; exact Or.inr h.symm
          · rintro (h | h); exact Or.inl h; exact Or.inr ⟨e, h.symm⟩
  · obtain ⟨B2, m2, S2, b1, b2, b3, b4⟩ := hs m S f l hfm hl hW hS hc
    have hB2 := b4.2.2.2.1
    obtain ⟨⟨-, ⟨-, -, g9', -⟩, -⟩, -⟩ := yW_v hW b2
    refine ⟨B ||| B2, m2, S2, ?_, b2, b3, vB_tr hB b4 (fun v => Iff.rfl) (fun v => Iff.rfl), vB_ct b4 84⟩
    rw [if_pos e4, e5, b1, e4]
    unfold fX9_bySum_57 fX9_bySum_84 fX9_bySum_104
    simp (disch := omega) only [zN_eq, zN_lit, Nat.reduceEqDiff, if_false, zca, vor, zgr g9']
theorem vq_chain {c n : Nat} (hf : vQf N K P R c) (hs : vQs N K P R n c) : ∀ (ts : List Nat) (p : Nat) (l : List zCode) (g B : Nat) (m : XM) (S0 S : Nat → Bool) (D C : Nat → Prop), ts.length < g → p < 400 → yCh K (yTm K P (n + 1)) ts p l → ycok P l → yW N K m P → vS m P S → c ≤ zct S 84 → vB P S0 S B D C →
    vQ P m S0 (fun v => D v ∨ zDl l v) (fun f => C f ∨ zCl l f) (xca (fX9_ofTerm N 88 (zN p) (zN 4) m) fun v3 m2 => fX9_bySum_4 N R g 85 (zN B) v3 m2) := by
  intro ts
  induction ts with
  | nil =>
    intro p l g B m S0 S D C hg hp hc hl hW hS hct hB
    obtain ⟨g, rfl⟩ : ∃ k, g = k + 1 := ⟨g - 1, by simp at hg; omega⟩
    obtain ⟨c1, rfl⟩ := hc
    obtain ⟨⟨⟨-, -, n88, -⟩, -⟩, hK⟩ := id hW
    refine ⟨B, m, S, ?_, vfr_rf m, hS, vB_iff hB (fun v => by rw [zDl_nil]; exact ⟨fun h => h.elim id (fun h => h.elim), Or.inl⟩) (fun v => by rw [zCl_nil]; exact ⟨fun h => h.elim id (fun h => h.elim), Or.inl⟩)⟩
    rw [yo_term n88 hp (by omega), hK, c1, zca]
    unfold fX9_bySum_4
    simp only [zv, zN_lit, zneg, if_true]
  | cons t ts ih =>
    intro p l g B m S0 S D C hg hp hc hl hW hS hct hB
    simp only [List.length_cons] at hg
    obtain ⟨g, rfl⟩ : ∃ k, g = k + 1 := ⟨g - 1, by omega⟩
    obtain ⟨c1, c2, lt, o, l', c3, c4, c5, c6, rfl, c7⟩ := hc
    obtain ⟨⟨⟨-, -, n88, -⟩, -⟩, hK⟩ := id hW
    have hlt : ycok P lt := fun q hq => hl q (List.mem_append_left _ hq)
    have hl' : ycok P l' := fun q hq => hl q (List.mem_append_right _ (List.mem_cons_of_mem _ hq))
    obtain ⟨B', m1, S1, b1, b2, b3, b4, b5⟩ := vq_term hf hs c3 hlt hW hS hct hB g
    obtain ⟨B2, m2, S2, d1, d2, d3, d4⟩ := ih t l' g B' m1 S0 S1 _ _ (by omega) (yTm_400 c3) c7 hl' (yW_v hW b2) b3 (by omega) b4
    refine ⟨B2, m2, S2, ?_, vfr_tr b2 d2, d3, vB_iff d4 (fun v => ?_) (fun v => ?_)⟩
    · rw [yo_term n88 hp (by omega), hK, c2, zca, b1]
      exact d1
    · rw [zDl_app, zDl_op (by omega), or_assoc]
    · rw [zCl_app, zCl_op (by omega), or_assoc]
theorem vq_sum {c n : Nat} (hf : vQf N K P R c) (hs : vQs N K P R n c) {f : Nat} {l : List zCode} {m : XM} {S : Nat → Bool} (hfl : ySm K (yTm K P (n + 1)) f l) (hl : ycok P l) (hW : yW N K m P) (hS : vS m P S) (hct : c ≤ zct S 84) : vQ P m S (zDl l) (zCl l) (fX9_bySum N R 85 (zN f) m) := by
  obtain ⟨l0, ts, lr, h1, h2, h3, rfl⟩ := hfl
  have hlt : ycok P l0 := fun q hq => hl q (List.mem_append_left _ hq)
  have hl' : ycok P lr := fun q hq => hl q (List.mem_append_right _ hq)
  unfold fX9_bySum
  have hX := zXF
  revert hX
  generalize XF = nf
  intro hX
  obtain ⟨g, rfl⟩ : ∃ k, nf = k + 1 := ⟨nf - 1, by omega⟩
  obtain ⟨B', m1, S1, b1, b2, b3, b4, b5⟩ := vq_term hf hs h1 hlt hW hS hct (vB_0 (P := P) (S := S)) g
  obtain ⟨B2, m2, S2, d1, d2, d3, d4⟩ := vq_chain hf hs ts f lr g B' m1 S S1 _ _ (by omega) h1.1 h3 hl' (yW_v hW b2) b3 (by omega) b4
  refine ⟨B2, m2, S2, ?_, vfr_tr b2 d2, d3, vB_iff d4 (fun v => ?_) (fun v => ?_)⟩
  · simp only [zN_lit]
    rw [b1]; exact d1
  · rw [zDl_app]; constructor
    · rintro (h | h); exact Or.inl (Or.inr h); exact Or.inr h
    · rintro ((h | h) | h); exact h.elim; exact Or.inl h; exact Or.inr h
  · rw [zCl_app]; constructor
    · rintro (h | h); exact Or.inl (Or.inr h); exact Or.inr h
    · rintro ((h | h) | h); exact h.elim; exact Or.inl h; exact Or.inr h
theorem vq_act {c : Nat} (hs : vQs N K P R 9 c) {a : Nat} {d : zDeed} {m : XM} {S : Nat → Bool} (ha : yact K P a d) (hd : zdok P d) (hW : yW N K m P) (hS : vS m P S) (hct : c ≤ zct S 84) : vQ P m S (zDd d) (zCl d.1) (fX9_byAct N R 85 (zN a) m) := by
  obtain ⟨a220, ⟨f, hf1, hf2⟩, ha0, ha1⟩ := ha
  have hwf := hW.1.2.2.1
  have hz := hwf.1
  obtain ⟨⟨⟨-, -, n88, -⟩, ⟨-, -, g9, -⟩, -⟩, hK⟩ := id hW
  obtain ⟨B, m1, S1, b1, b2, b3, b4⟩ := hs m S f d.1 hf2 hd.1.2 hW hS hct
  have hB := b4.2.2.2.1
  obtain ⟨⟨-, ⟨-, -, g9', -⟩, -⟩, hK1⟩ := yW_v hW b2
  have e0 := yo_act (m := m1) (a := 88) (x := a) (w := 0) n88 a220 (by omega)
  rw [Nat.add_zero, hK1] at e0
  have e2 := yo_act (m := m) (a := 88) (x := a) (w := 2) n88 a220 (by omega)
  rw [hK, hf1] at e2
  unfold fX9_byAct
  simp (disch := omega) only [zgr g9, zN_lit, e2, zca, b1, zgr g9', e0, zneg]
  cases hd2 : d.2 with
  | none =>
    refine ⟨B, m1, S1, ?_, b2, b3, vB_iff b4 (fun v => ?_) (fun v => Iff.rfl)⟩
    · rw [ha0 hd2, if_pos rfl, zv, vor hB (by omega), Nat.or_zero]
    · unfold zDd
      rw [hd2]
      constructor
      · rintro (h | ⟨x, h, -⟩); exact h; cases h
      · exact Or.inl
  | some x =>
    obtain ⟨x1, x2⟩ := ha1 x hd2
    have hx := (hd.2 x hd2).1
    have hx7 := (zok_84 hwf hx).2
    have hp := wb_one (x / 12) (by omega)
    have hp128 : 2 ^ (x / 12) < 128 := (vB_1 (P := P) (S := S) hx7).2.2.2.1
    refine ⟨B ||| 2 ^ (x / 12), m1, S1, ?_, b2, b3, vB_tr b4 (vB_1 hx7) (fun v => ?_) (fun v => ?_)⟩
    · simp (disch := omega) only [x1, zN_m, if_false, zv, hp, vor]
    · unfold zDd
      rw [hd2]
      constructor
      · rintro (h | ⟨y, h, h'⟩); exact Or.inl h; injection h with h; rw [← h] at h'; exact Or.inr h'
      · rintro (h | h); exact Or.inl h; exact Or.inr ⟨x, rfl, h⟩
    · constructor
      · exact Or.inl
      · rintro (h | h); exact h; exact h.elim
theorem vq_fun_34 {c : Nat} (ha : vQa N K P R c) {x a n0 : Nat} (hx : zok P x) (hxn : K (110 + 5 * zmid P x + 3) = zN n0) (hxa : n0 ≠ 0 → K (110 + 5 * zmid P x + 4) = zN a) (hn0 : n0 ≤ 4) (hal : n0 ≠ 0 → a < 1000) : ∀ (l : List zDeed) (g i B : Nat) (m : XM) (S0 S : Nat → Bool) (D C : Nat → Prop), l.length < g → i + l.length = n0 → yacts K P (a + i) l → (∀ d ∈ l, zdok P d) → yW N K m P → vS m P S → c ≤ zct S 84 → vB P S0 S B D C →
    vQ P m S0 (fun v => D v ∨ ∃ d ∈ l, zDd d v) (fun f => C f ∨ ∃ d ∈ l, zCl d.1 f) (fX9_byFunction_34 N R g 85 (zN (zmid P x)) (zN B) (zN i) m) := by
  intro l
  induction l with
  | nil =>
    intro g i B m S0 S D C hg hi hya hok hW hS hct hB
    obtain ⟨g, rfl⟩ : ∃ k, g = k + 1 := ⟨g - 1, by simp at hg; omega⟩
    simp only [List.length_nil] at hi
    have hmid := zmid_lt hW.1.2.2.1 hx
    obtain ⟨⟨⟨-, -, n88, -⟩, ⟨-, -, g9, -⟩, -⟩, hK⟩ := id hW
    have hK' : ∀ j, gi m 88 j = K j := fun j => congrFun hK j
    refine ⟨B, m, S, ?_, vfr_rf m, hS, vB_iff hB (fun v => ?_) (fun v => ?_)⟩
    · unfold fX9_byFunction_34
      simp (disch := omega) only [zv, zgr g9, zN_lit, yo_mem, hK', hxn, zca, zN_le]
      rw [if_pos (by omega)]
    · constructor
      · rintro (h | ⟨d, h, -⟩); exact h; cases h
      · exact Or.inl
    · constructor
      · rintro (h | ⟨d, h, -⟩); exact h; cases h
      · exact Or.inl
  | cons d l ih =>
    intro g i B m S0 S D C hg hi hya hok hW hS hct hB
    simp only [List.length_cons] at hg hi
    obtain ⟨g, rfl⟩ : ∃ k, g = k + 1 := ⟨g - 1, by omega⟩
    have hmid := zmid_lt hW.1.2.2.1 hx
    obtain ⟨⟨⟨-, -, n88, -⟩, ⟨-, -, g9, -⟩, -⟩, hK⟩ := id hW
    have hK' : ∀ j, gi m 88 j = K j := fun j => congrFun hK j
    have hxa := hxa (by omega)
    have hal := hal (by omega)
    obtain ⟨B1, m1, S1, b1, b2, b3, b4⟩ := ha m S (a + i) d hya.1 (hok d List.mem_cons_self) hW hS hct
    have hB1 := b4.2.2.2.1
    have hB0 := hB.2.2.2.1
    obtain ⟨B2, m2, S2, d1, d2, d3, d4⟩ := ih g (i + 1) (B ||| B1) m1 S0 S1 (fun v => D v ∨ zDd d v) (fun f => C f ∨ zCl d.1 f) (by omega) (by omega) hya.2 (fun e he => hok e (List.mem_cons_of_mem _ he)) (yW_v hW b2) b3 (by have := vB_ct b4 84; omega) (vB_tr hB b4 (fun _ => Iff.rfl) (fun _ => Iff.rfl))
    refine ⟨B2, m2, S2, ?_, vfr_tr b2 d2, d3, vB_iff d4 (fun v => ?_) (fun v => ?_)⟩
    · unfold fX9_byFunction_34
      simp (disch := omega) only [zv, zgr g9, zN_lit, yo_mem, hK', hxn, zca, zN_le, hxa, zN_add, b1, vor]
      rw [if_neg (by omega)]
      exact d1
    · constructor
      · rintro (h | ⟨e, h, h'⟩)
        · exact Or.inl (Or.inl h)
        · rcases List.mem_cons.mp h with g | g
          · rw [g] at h'; exact Or.inl (Or.inr h')
          · exact Or.inr ⟨e, g, h'⟩
      · rintro ((h | h) | ⟨e, h, h'⟩)
        · exact Or.inl h
        · exact Or.inr ⟨d, List.mem_cons_self, h⟩
        · exact Or.inr ⟨e, List.mem_cons_of_mem _ h, h'⟩
    · constructor
      · rintro (h | ⟨e, h, h'⟩)
        · exact Or.inl (Or.inl h)
        · rcases List.mem_cons.mp h with g | g
          · rw [g] at h'; exact Or.inl (Or.inr h')
          · exact Or.inr ⟨e, g, h'⟩
      · rintro ((h | h) | ⟨e, h, h'⟩)
        · exact Or.inl h
        · exact Or.inr ⟨d, List.mem_cons_self, h⟩
        · exact Or.inr ⟨e, List.mem_cons_of_mem _ h, h'⟩
theorem vq_fun {c : Nat} (ha : zct (fun _ => true) 84 < c ∨ (vQa N K P R c ∧ vQs N K P R 9 c)) {x : Nat} {m : XM} {S : Nat → Bool} (hx : zok P x) (hxk : zknd P x = 4) (hW : yW N K m P) (hS : vS m P S) (hct : c ≤ zct S 84 + 1) : vQ P m S (fun _ => False) (fun g => g = x) (fX9_byFunction N R 85 (zN (zmid P x)) m) := by
  have hwf := hW.1.2.2.1
  have h84 := zok_84 hwf hx
  have hmid := zmid_lt hwf hx
  obtain ⟨⟨⟨-, -, n88, -, -, -, -, -, -, -, -, -, -, -, -, -, -, -, -, -, -, -, -, n109, -⟩, ⟨-, -, g9, -, -, -, -, -, -, -, -, -, -, -, -, -, -, -, -, -, -, -, -, g45, -⟩, -, ⟨-, -, -, -, hm, -⟩⟩, hK⟩ := id hW
  obtain ⟨⟨-, y1, -, -, -, y5⟩, -⟩ := hm x hx
  rw [hK] at y1 y5
  have hK' : ∀ j, gi m 88 j = K j := fun j => congrFun hK j
  obtain ⟨f, a, l, g, p1, p2, p3, p4, p5, p6, p7⟩ := y5 hxk
  have hx3 := hwf.2.2.1 x hx
  have hsx := hS x hx
  unfold fX9_byFunction
  have hX := zXF
  revert hX
  generalize XF = nf
  intro hX
  simp (disch := omega) only [zgr g45, zald, hsx, zN_lit]
  cases hsn : S x with
  | true =>
    simp only [if_true, zN10, if_false]
    exact ⟨0, m, S, rfl, vfr_rf m, hS, vB_seen hsn⟩
  | false =>
    simp only [Bool.false_eq_true, if_false, if_true]
    have hcs := zct_set hsn 84 h84.1
    have hle := zct_le (zset S x true) 84
    rcases ha with ha | ⟨ha, hs⟩
    · have : zct (fun _ => true) 84 = 84 := by decide
      omega
    · have f1 : vfr m (si m 109 (zmid P x) (zN 1)) := vfr_si (vfr_rf m)
      have hS1 : vS (si m 109 (zmid P x) (zN 1)) P (zset S x true) := fun y hy => by
        by_cases e : y = x
        · rw [e, gi_si, zset_eq, if_pos rfl]
        · rw [gi_ne (fun q => e (zmid_inj hy hx q.2)), zset_ne _ _ e]; exact hS y hy
      have hW1 := yW_v hW f1
      have hdl : ∀ d ∈ l, zdok P d := fun d hd => hx3.2.2.1 d (by rw [p7]; exact List.mem_append_left _ hd)
      have hgk : ycok P g := (hx3.2.2.1 (g, none) (by rw [p7]; exact List.mem_append_right _ List.mem_cons_self)).1.2
      obtain ⟨B1, m1, S1, b1, b2, b3, b4⟩ := hs _ (zset S x true) f g p2 hgk hW1 hS1 (by omega)
      obtain ⟨B2, m2, S2, d1, d2, d3, d4⟩ := vq_fun_34 (N := N) ha hx p3 (fun _ => p4) p5 (fun hne => by
        cases l with
        | nil => exact absurd rfl hne
        | cons d l => have := p6.1.1; omega) l nf 0 B1 m1 (zset S x true) S1 (zDl g) (zCl g) (by omega) (by omega) p6 hdl (yW_v hW1 b2) b3 (by have := vB_ct b4 84; omega) b4
      refine ⟨B2, m2, S2, ?_, vfr_tr f1 (vfr_tr b2 d2), d3, vB_fn hsn (vB_iff d4 (fun v => ?_) (fun v => ?_))⟩
      · simp (disch := omega) only [yzst, ynar1, zgr_si, zgr g9, yo_mem, gi_ne, hK', p1, zca, b1]
        exact d1
      · unfold zDf
        rw [p7]
        constructor
        · rintro ⟨d, h, h'⟩
          rcases List.mem_append.mp h with q | q
          · exact Or.inr ⟨d, q, h'⟩
          · rw [List.mem_singleton.mp q] at h'
            rcases h' with h' | ⟨y, h', -⟩
            · exact Or.inl h'
            · cases h'
        · rintro (h | ⟨d, h, h'⟩)
          · exact ⟨(g, none), List.mem_append_right _ List.mem_cons_self, Or.inl h⟩
          · exact ⟨d, List.mem_append_left _ h, h'⟩
      · unfold zCf
        rw [p7]
        constructor
        · rintro ⟨d, h, h'⟩
          rcases List.mem_append.mp h with q | q
          · exact Or.inr ⟨d, q, h'⟩
          · rw [List.mem_singleton.mp q] at h'; exact Or.inl h'
        · rintro (h | ⟨d, h, h'⟩)
          · exact ⟨(g, none), List.mem_append_right _ List.mem_cons_self, h⟩
          · exact ⟨d, List.mem_append_left _ h, h'⟩
end VB
