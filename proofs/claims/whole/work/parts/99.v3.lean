/-! ===== v: the reference's touched ===== -/
theorem vgE (N : Nat → Nat) (e t q : Nat) (x0 : Int32) (m : XM) : gX9_bySum N (e + 1) t q x0 m = if t = 0 then fX9_bySum N (gX9_bySum N e) q x0 m else if t = 1 then fX9_byAct N (gX9_bySum N e) q x0 m else if t = 2 then fX9_byFunction N (gX9_bySum N e) q x0 m else none := by
  rw [gX9_bySum, zv]
theorem vgE0 (N : Nat → Nat) (e q : Nat) (x0 : Int32) (m : XM) : gX9_bySum N (e + 1) 0 q x0 m = fX9_bySum N (gX9_bySum N e) q x0 m := by
  rw [vgE, if_pos rfl]
theorem vgE1 (N : Nat → Nat) (e q : Nat) (x0 : Int32) (m : XM) : gX9_bySum N (e + 1) 1 q x0 m = fX9_byAct N (gX9_bySum N e) q x0 m := by
  rw [vgE, if_neg (by omega), if_pos rfl]
theorem vgE2 (N : Nat → Nat) (e q : Nat) (x0 : Int32) (m : XM) : gX9_bySum N (e + 1) 2 q x0 m = fX9_byFunction N (gX9_bySum N e) q x0 m := by
  rw [vgE, if_neg (by omega), if_neg (by omega), if_pos rfl]
section VC
variable {N : Nat → Nat} {P : zP} {K : Nat → Int32}
theorem vg_rest {c e0 : Nat} (h : ∀ e, e0 ≤ e → vQf N K P (gX9_bySum N e) c) : (∀ n e, e0 + n ≤ e → vQs N K P (gX9_bySum N e) n c) ∧ (∀ e, e0 + 10 ≤ e → vQa N K P (gX9_bySum N e) c) := by
  have hs : ∀ n e, e0 + n ≤ e → vQs N K P (gX9_bySum N e) n c := by
    intro n
    induction n with
    | zero => intro e _ m S f l hf; obtain ⟨l0, ts, lr, h1, -⟩ := hf; exact h1.elim
    | succ n ih =>
      intro e he m S f l hf hl hW hS hc
      obtain ⟨e, rfl⟩ : ∃ j, e = j + 1 := ⟨e - 1, by omega⟩
      rw [vgE0]
      exact vq_sum (h e (by omega)) (ih e (by omega)) hf hl hW hS hc
  refine ⟨hs, fun e he m S a d ha hd hW hS hc => ?_⟩
  obtain ⟨e, rfl⟩ : ∃ j, e = j + 1 := ⟨e - 1, by omega⟩
  rw [vgE1]
  exact vq_act (hs 9 e (by omega)) ha hd hW hS hc
theorem vg_fun : ∀ (j e : Nat), j ≤ 85 → 11 * j ≤ e → vQf N K P (gX9_bySum N e) (85 - j) := by
  intro j
  induction j with
  | zero =>
    intro e _ _ m S x _ _ _ _ hc
    have := zct_le S 84
    omega
  | succ j ih =>
    intro e hj he m S x hx hxk hW hS hc
    obtain ⟨e, rfl⟩ : ∃ j, e = j + 1 := ⟨e - 1, by omega⟩
    rw [vgE2]
    obtain ⟨hs, ha⟩ := vg_rest (N := N) (P := P) (K := K) (c := 85 - j) (e0 := 11 * j) (fun e he => ih e (by omega) he)
    exact vq_fun (c := 85 - j) (Or.inr ⟨ha e (by omega), hs 9 e (by omega)⟩) hx hxk hW hS (by omega)
theorem vg_top : vQs N K P (gX9_bySum N 1000) 9 0 ∧ vQa N K P (gX9_bySum N 1000) 0 := by
  obtain ⟨hs, ha⟩ := vg_rest (N := N) (P := P) (K := K) (c := 0) (e0 := 935) (fun e he => vg_fun 85 e (by omega) (by omega))
  exact ⟨hs 9 1000 (by omega), ha 1000 (by omega)⟩
/-- places are all there -/
def zpm (P : zP) : Prop := ∀ u, u < zn P → ∀ j, j < zcnt P u → ∃ i, i < zcnt P u ∧ zplc P u i = j
/-- members from place i on -/
def zMi (P : zP) (u i x : Nat) (d : zDeed) : Prop := zMs P u x d ∧ ∃ k, i ≤ k ∧ k < zcnt P u ∧ x = 12 * u + zplc P u k
theorem zMi_0 (hp : zpm P) {u x : Nat} {d : zDeed} (hu : u < zn P) : zMi P u 0 x d ↔ zMs P u x d := by
  constructor
  · exact fun h => h.1
  · intro h
    obtain ⟨k, k1, k2⟩ := hp u hu (x % 12) (by have := h.1.2; rw [h.2.1] at this; exact this)
    refine ⟨h, k, by omega, k1, ?_⟩
    have := h.2.1
    omega
theorem vc_touched_52 (hw : zwf P) {u : Nat} (hun : u < zn P) : ∀ (d g i B : Nat) (m : XM) (S0 S : Nat → Bool) (D C : Nat → Prop), d < g → i + d = zcnt P u → yW N K m P → vS m P S → vB P S0 S B D C →
    vQ P m S0 (fun v => D v ∨ ∃ x d, zMi P u i x d ∧ zDd d v) (fun f => C f ∨ ∃ x d, zMi P u i x d ∧ zCl d.1 f) (fX9_touched_52 N g 85 (zN u) (zN B) (zN i) m) := by
  have hz := hw.1
  have hcn := (hw.2.1 u hun).1
  intro d
  induction d with
  | zero =>
    intro g i B m S0 S D C hg hi hW hS hB
    obtain ⟨g, rfl⟩ : ∃ k, g = k + 1 := ⟨g - 1, by omega⟩
    obtain ⟨⟨⟨-, -, n88, -⟩, ⟨-, -, g9, -⟩, -, ⟨-, -, -, hu0, -⟩⟩, -⟩ := id hW
    have hc := (hu0 u hun).2.2.1
    refine ⟨B, m, S, ?_, vfr_rf m, hS, vB_iff hB (fun v => ?_) (fun v => ?_)⟩
    · unfold fX9_touched_52
      simp (disch := omega) only [zv, zgr g9, zN_lit, yo_unit, zca, hc, zN_le]
      rw [if_pos (by omega)]
    · constructor
      · rintro (h | ⟨x, d, ⟨-, k, k1, k2, -⟩, -⟩); exact h; omega
      · exact Or.inl
    · constructor
      · rintro (h | ⟨x, d, ⟨-, k, k1, k2, -⟩, -⟩); exact h; omega
      · exact Or.inl
  | succ d ih =>
    intro g i B m S0 S D C hg hi hW hS hB
    obtain ⟨g, rfl⟩ : ∃ k, g = k + 1 := ⟨g - 1, by omega⟩
    obtain ⟨⟨⟨-, -, n88, -, n90, -⟩, ⟨-, -, g9, -, g11, -⟩, -, ⟨-, -, -, hu0, hm, -⟩⟩, hK⟩ := id hW
    have hK' : ∀ j, gi m 88 j = K j := fun j => congrFun hK j
    have hc := (hu0 u hun).2.2.1
    have hp := (hu0 u hun).2.2.2 i (by omega)
    have hok := zplc_ok hw hun (i := i) (by omega)
    have hmid := zmid_lt hw hok
    have hme := zmid_plc hw hun (i := i) (by omega)
    have hdv : (12 * u + zplc P u i) / 12 = u := by
      have := (hw.2.1 u hun).2.2.2 i (by omega)
      omega
    obtain ⟨⟨y0, y1, y2, y3, y4, y5⟩, y6⟩ := hm _ hok
    rw [hK] at y0 y2 y3 y4 y5
    rw [hme] at y0 y2 y3 y4 y5 y6 hmid
    have hw3 := hw.2.2.1 _ hok
    have hB0 := hB.2.2.2.1
    generalize hx : 12 * u + zplc P u i = x at *
    have e0 := yo_mem (m := m) (a := 88) (x := zbase P u + zplc P u i) (w := 0) n88 (by omega) (by omega)
    rw [Nat.add_zero, hK', y0] at e0
    have e2 := yo_mem (m := m) (a := 88) (x := zbase P u + zplc P u i) (w := 2) n88 (by omega) (by omega)
    rw [hK'] at e2
    have hsplit : ∀ y d, zMi P u i y d ↔ (zMs P u y d ∧ y = x ∨ zMi P u (i + 1) y d) := fun y d => by
      constructor
      · rintro ⟨h, k, k1, k2, k3⟩
        by_cases e : k = i
        · left; exact ⟨h, by rw [k3, e, hx]⟩
        · right; exact ⟨h, k, by omega, k2, k3⟩
      · rintro (⟨h, e⟩ | ⟨h, k, k1, k2, k3⟩)
        · exact ⟨h, i, Nat.le_refl _, by omega, by rw [e, hx]⟩
        · exact ⟨h, k, by omega, k2, k3⟩
    have hskip : (∀ d, ¬ zMs P u x d) → vQ P m S0 (fun v => D v ∨ ∃ x d, zMi P u i x d ∧ zDd d v) (fun f => C f ∨ ∃ x d, zMi P u i x d ∧ zCl d.1 f) (fX9_touched_52 N g 85 (zN u) (zN B) (zN (i + 1)) m) := fun hno => by
      obtain ⟨B2, m2, S2, d1, d2, d3, d4⟩ := ih g (i + 1) B m S0 S D C (by omega) (by omega) hW hS hB
      refine ⟨B2, m2, S2, d1, d2, d3, vB_iff d4 (fun v => ?_) (fun v => ?_)⟩
      · constructor
        · rintro (h | ⟨y, d, h, h'⟩)
          · exact Or.inl h
          · rcases (hsplit y d).1 h with ⟨q1, q2⟩ | q
            · rw [q2] at q1; exact absurd q1 (hno d)
            · exact Or.inr ⟨y, d, q, h'⟩
        · rintro (h | ⟨y, d, h, h'⟩)
          · exact Or.inl h
          · exact Or.inr ⟨y, d, (hsplit y d).2 (Or.inr h), h'⟩
      · constructor
        · rintro (h | ⟨y, d, h, h'⟩)
          · exact Or.inl h
          · rcases (hsplit y d).1 h with ⟨q1, q2⟩ | q
            · rw [q2] at q1; exact absurd q1 (hno d)
            · exact Or.inr ⟨y, d, q, h'⟩
        · rintro (h | ⟨y, d, h, h'⟩)
          · exact Or.inl h
          · exact Or.inr ⟨y, d, (hsplit y d).2 (Or.inr h), h'⟩
    have hadd : ∀ de, zMs P u x de → ∀ o, vQ P m S (zDd de) (zCl de.1) o → vQ P m S0 (fun v => D v ∨ ∃ x d, zMi P u i x d ∧ zDd d v) (fun f => C f ∨ ∃ x d, zMi P u i x d ∧ zCl d.1 f) (xca o fun v18 m17 => fX9_touched_52 N g 85 (zN u) (zN B ||| v18) (zN (i + 1)) m17) := fun de hde o ho => by
      obtain ⟨B1, m1, S1, rfl, b2, b3, b4⟩ := ho
      have hB1 := b4.2.2.2.1
      obtain ⟨B2, m2, S2, d1, d2, d3, d4⟩ := ih g (i + 1) (B ||| B1) m1 S0 S1 (fun v => D v ∨ zDd de v) (fun f => C f ∨ zCl de.1 f) (by omega) (by omega) (yW_v hW b2) b3 (vB_tr hB b4 (fun _ => Iff.rfl) (fun _ => Iff.rfl))
      refine ⟨B2, m2, S2, ?_, vfr_tr b2 d2, d3, vB_iff d4 (fun v => ?_) (fun v => ?_)⟩
      · rw [zca, vor hB0 hB1]; exact d1
      · constructor
        · rintro (h | ⟨y, d, h, h'⟩)
          · exact Or.inl (Or.inl h)
          · rcases (hsplit y d).1 h with ⟨q1, q2⟩ | q
            · rw [q2] at q1
              have : d = de := by have e1 := q1.2.2.2.2; have e2 := hde.2.2.2.2; rw [e1] at e2; injection e2
              rw [this] at h'; exact Or.inl (Or.inr h')
            · exact Or.inr ⟨y, d, q, h'⟩
        · rintro ((h | h) | ⟨y, d, h, h'⟩)
          · exact Or.inl h
          · exact Or.inr ⟨x, de, (hsplit x de).2 (Or.inl ⟨hde, rfl⟩), h⟩
          · exact Or.inr ⟨y, d, (hsplit y d).2 (Or.inr h), h'⟩
      · constructor
        · rintro (h | ⟨y, d, h, h'⟩)
          · exact Or.inl (Or.inl h)
          · rcases (hsplit y d).1 h with ⟨q1, q2⟩ | q
            · rw [q2] at q1
              have : d = de := by have e1 := q1.2.2.2.2; have e2 := hde.2.2.2.2; rw [e1] at e2; injection e2
              rw [this] at h'; exact Or.inl (Or.inr h')
            · exact Or.inr ⟨y, d, q, h'⟩
        · rintro ((h | h) | ⟨y, d, h, h'⟩)
          · exact Or.inl h
          · exact Or.inr ⟨x, de, (hsplit x de).2 (Or.inl ⟨hde, rfl⟩), h⟩
          · exact Or.inr ⟨y, d, (hsplit y d).2 (Or.inr h), h'⟩
    have hstep : fX9_touched_52 N (g + 1) 85 (zN u) (zN B) (zN i) m = if (if zon P x = true then zN 0 else zN 1) = zN 0 then (if zN (zknd P x) = zN 0 then fX9_touched_52 N g 85 (zN u) (zN B) (zN (i + 1)) m else if zN (zknd P x) = zN 4 then fX9_touched_52 N g 85 (zN u) (zN B) (zN (i + 1)) m else if zN (zknd P x) = zN 1 then (xca (gX9_bySum N 1000 0 85 (K (110 + 5 * (zbase P u + zplc P u i) + 2)) m) fun v18 m17 => fX9_touched_52 N g 85 (zN u) (zN B ||| v18) (zN (i + 1)) m17) else (xca (gX9_bySum N 1000 1 85 (K (110 + 5 * (zbase P u + zplc P u i) + 2)) m) fun v16 m15 => fX9_touched_52 N g 85 (zN u) (zN B ||| v16) (zN (i + 1)) m15)) else fX9_touched_52 N g 85 (zN u) (zN B) (zN (i + 1)) m := by
      rw [fX9_touched_52]
      unfold fX9_touched_146 fX9_touched_148
      simp (disch := omega) only [zv, zgr g9, zN_lit, yo_unit, zca, hc, zN_le, yo_memb, hp, e0, e2, zgr g11, zald, y6, zN_add]
      rw [if_neg (show ¬ zcnt P u ≤ i by omega)]
    rw [hstep]
    by_cases hon : zon P x = true
    · rw [if_pos hon, if_pos rfl]
      have hkk := hw3.1
      have hcse : zknd P x = 0 ∨ zknd P x = 1 ∨ zknd P x = 2 ∨ zknd P x = 3 ∨ zknd P x = 4 := by omega
      rcases hcse with hk | hk | hk | hk | hk
      · rw [hk, if_pos rfl]
        exact hskip (fun d h => by have h5 := h.2.2.2.2; rw [(y2 hk).2.2] at h5; cases h5)
      · have h14 : ¬ zN 1 = zN 4 := by rw [zN_eq (by omega) (by omega)]; omega
        rw [hk, if_neg (by rw [zN10]; exact id), if_neg h14, if_pos rfl]
        cases hi : zini P x with
        | none =>
          rw [(y3 hk).1 hi]
          have hsk := hskip (fun d h => by have h5 := h.2.2.2.2; rw [hi] at h5; cases h5)
          have hq : gX9_bySum N 1000 0 85 zM m = some (zN 0, m) := by
            rw [vgE0]
            unfold fX9_bySum
            have hX := zXF
            revert hX
            generalize XF = nf
            intro hX
            obtain ⟨nf, rfl⟩ : ∃ k, nf = k + 1 := ⟨nf - 1, by omega⟩
            unfold fX9_bySum_4
            simp only [zv, zN_lit, zneg, if_true]
          rw [hq, zca, vor hB0 (by omega), Nat.or_zero]
          exact hsk
        | some de =>
          obtain ⟨f, f1, f2⟩ := (y3 hk).2 de hi
          rw [f1]
          have hd2 := hw3.2.2.2.2.1 hk de hi
          have hs := vg_top (N := N) (P := P) (K := K)
          have hq := hs.1 m S f de.1 f2 (hw3.2.1 de hi).1.2 hW hS (Nat.zero_le _)
          refine hadd de ⟨hok, hdv, hon, by omega, hi⟩ _ ?_
          obtain ⟨B1, m1, S1, q1, b2, b3, b4⟩ := hq
          refine ⟨B1, m1, S1, q1, b2, b3, vB_iff b4 (fun v => ?_) (fun v => Iff.rfl)⟩
          unfold zDd
          rw [hd2]
          constructor
          · rintro (h | ⟨y, h, -⟩); exact h; cases h
          · exact Or.inl
      · have h20 : ¬ zN 2 = zN 0 := by rw [zN_eq (by omega) (by omega)]; omega
        have h24 : ¬ zN 2 = zN 4 := by rw [zN_eq (by omega) (by omega)]; omega
        have h21 : ¬ zN 2 = zN 1 := by rw [zN_eq (by omega) (by omega)]; omega
        rw [hk, if_neg h20, if_neg h24, if_neg h21]
        obtain ⟨a, de, a1, a2, a3⟩ := y4 (Or.inl hk)
        rw [a1]
        exact hadd de ⟨hok, hdv, hon, by omega, a2⟩ _ ((vg_top (N := N) (P := P) (K := K)).2 m S a de a3 (hw3.2.1 de a2) hW hS (Nat.zero_le _))
      · have h20 : ¬ zN 3 = zN 0 := by rw [zN_eq (by omega) (by omega)]; omega
        have h24 : ¬ zN 3 = zN 4 := by rw [zN_eq (by omega) (by omega)]; omega
        have h21 : ¬ zN 3 = zN 1 := by rw [zN_eq (by omega) (by omega)]; omega
        rw [hk, if_neg h20, if_neg h24, if_neg h21]
        obtain ⟨a, de, a1, a2, a3⟩ := y4 (Or.inr hk)
        rw [a1]
        exact hadd de ⟨hok, hdv, hon, by omega, a2⟩ _ ((vg_top (N := N) (P := P) (K := K)).2 m S a de a3 (hw3.2.1 de a2) hW hS (Nat.zero_le _))
      · have h20 : ¬ zN 4 = zN 0 := by rw [zN_eq (by omega) (by omega)]; omega
        rw [hk, if_neg h20, if_pos rfl]
        exact hskip (fun d h => h.2.2.2.1 hk)
    · rw [if_neg hon, if_neg (by rw [zN10]; exact id)]
      exact hskip (fun d h => hon h.2.2.1)
theorem vc_touched_2 (hw : zwf P) (hpm : zpm P) {u : Nat} (hun : u < zn P) : ∀ (d g i : Nat) (m : XM), d < g → i + d = 84 → yW N K m P → (∀ k, k < i → gi m 109 k = zN 0) →
    ∃ m', fX9_touched_2 N g 85 (zN u) (zN i) m = some (zN (zB P u), m') ∧ vfr m m' := by
  have hz := hw.1
  intro d
  induction d with
  | zero =>
    intro g i m hg hi hW h0
    obtain ⟨g, rfl⟩ : ∃ k, g = k + 1 := ⟨g - 1, by omega⟩
    obtain ⟨⟨⟨-, -, n88, -⟩, ⟨-, -, g9, -⟩, -, ⟨-, -, -, hu0, -⟩⟩, -⟩ := id hW
    have hab := (hu0 u hun).2.1
    have hS : vS m P (fun _ => false) := fun x hx => by rw [h0 _ (by have := zmid_lt hw hx; omega)]; rfl
    have hfin : ∀ B D, vB P (fun _ => false) (fun _ => false) B D (fun _ => False) → (∀ v, D v ↔ zabv P u = some v) → ∃ m', fX9_touched_49 N 85 (zN u) (zN B) m = some (zN (zB P u), m') ∧ vfr m m' := fun B D hB hD => by
      unfold fX9_touched_49
      have hX := zXF
      revert hX
      generalize XF = nf
      intro hX
      have hcn := (hw.2.1 u hun).1
      obtain ⟨B2, m2, S2, d1, d2, d3, d4⟩ := vc_touched_52 (N := N) (K := K) hw hun (zcnt P u) nf 0 B m _ _ D (fun _ => False) (by omega) (by omega) hW hS hB
      obtain ⟨e1, e2⟩ := vB_end d4
      refine ⟨m2, ?_, d2⟩
      simp only [zN_lit]
      rw [d1]
      congr 3
      refine zmk7_eq e1 (fun v hv => ?_)
      rw [e2 v hv]
      unfold zTo
      have hC : (fun f => False ∨ ∃ x d, zMi P u 0 x d ∧ zCl d.1 f) = zCm P u := funext fun f => propext ⟨fun h => by
        rcases h with h | ⟨x, d, h, h'⟩
        · exact h.elim
        · exact ⟨x, d, (zMi_0 hpm hun).1 h, h'⟩, fun ⟨x, d, h, h'⟩ => Or.inr ⟨x, d, (zMi_0 hpm hun).2 h, h'⟩⟩
      rw [hC, hD]
      constructor
      · rintro ((h | ⟨x, d, h, h'⟩) | h)
        · exact Or.inl h
        · exact Or.inr (Or.inl ⟨x, d, (zMi_0 hpm hun).1 h, h'⟩)
        · exact Or.inr (Or.inr h)
      · rintro (h | ⟨x, d, h, h'⟩ | h)
        · exact Or.inl (Or.inl h)
        · exact Or.inl (Or.inr ⟨x, d, (zMi_0 hpm hun).2 h, h'⟩)
        · exact Or.inr h
    unfold fX9_touched_2
    simp (disch := omega) only [zv, zN_lit, zN_le, zgr g9, yo_unit, hab, zca, zneg]
    rw [if_pos (by omega)]
    cases ha : zabv P u with
    | none =>
      simp only [zopt, if_true]
      refine hfin 0 _ vB_0 (fun v => ?_)
      rw [ha]
      exact ⟨fun h => h.elim, fun h => (by cases h)⟩
    | some a =>
      have ha7 := (hw.2.1 u hun).2.2.1 a ha
      simp (disch := omega) only [zopt, zN_m, if_false, zv, wb_one]
      refine hfin (2 ^ a) _ (vB_1 (by omega)) (fun v => ?_)
      rw [ha]
      exact ⟨fun h => by rw [h], fun h => by injection h⟩
  | succ d ih =>
    intro g i m hg hi hW h0
    obtain ⟨g, rfl⟩ : ∃ k, g = k + 1 := ⟨g - 1, by omega⟩
    obtain ⟨⟨⟨-, -, -, -, -, -, -, -, -, -, -, -, -, -, -, -, -, -, -, -, -, -, -, n109, -⟩, ⟨-, -, -, -, -, -, -, -, -, -, -, -, -, -, -, -, -, -, -, -, -, -, -, g45, -⟩, -⟩, -⟩ := id hW
    have f1 : vfr m (si m 109 i (zN 0)) := vfr_si (vfr_rf m)
    obtain ⟨m', p1, p2⟩ := ih g (i + 1) (si m 109 i (zN 0)) (by omega) (by omega) (yW_v hW f1) (fun k hk => by
      by_cases e : k = i
      · rw [e, gi_si]
      · rw [gi_ne (by omega)]; exact h0 k (by omega))
    refine ⟨m', ?_, vfr_tr f1 p2⟩
    unfold fX9_touched_2
    simp (disch := omega) only [zv, zN_lit, zN_le, zgr g45, yzst, ynar0, zN_add]
    rw [if_neg (by omega)]
    exact p1
theorem vc_touched (hw : zwf P) (hpm : zpm P) {u : Nat} {m : XM} (hun : u < zn P) (hU : yU N m P) : ∃ m', fX9_touched N 85 (zN u) m = some (zN (zB P u), m') ∧ vfr m m' := by
  unfold fX9_touched
  have hX := zXF
  revert hX
  generalize XF = nf
  intro hX
  simp only [zN_lit]
  exact vc_touched_2 (K := gi m 88) hw hpm hun 84 nf 0 m (by omega) (by omega) ⟨hU, rfl⟩ (fun k hk => by omega)
end VC
