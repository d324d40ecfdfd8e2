/-! ===== v: masks, and the reference's reach ===== -/
theorem wb_and : ∀ a, a < 128 → ∀ b, b < 128 → zN a &&& zN b = zN (a &&& b) := by decide +kernel
theorem wb_nx : ∀ a, a < 128 → ∀ x, x < 128 → zN a &&& (zN x ^^^ zM) = zN (a &&& (127 - x)) := by decide +kernel
theorem wb_dec : ∀ a, a < 128 → 0 < a → a &&& (a - 1) < a ∧ zpc (a &&& (a - 1)) + 1 = zpc a := by decide +kernel
theorem wb_pc7 : ∀ a, a < 128 → zpc a ≤ 7 := by decide +kernel
theorem wb_bc (N : Nat → Nat) (m : XM) (x : Int32) : fJ6_bitCount_0f7a4 N x m = some (((fJ6_bitCount_0f7a4 N x m).map Prod.fst).getD 0, m) := rfl
theorem vbits (N : Nat → Nat) (m : XM) : ∀ (a g s : Nat), a < g → a < 128 → fX9_bits_4 N g (zN s) (zN a) m = some (zN (s + zpc a), m) := by
  intro a
  induction a using Nat.strongRecOn with
  | _ a ih =>
    intro g s hg ha
    obtain ⟨g, rfl⟩ : ∃ j, g = j + 1 := ⟨g - 1, by omega⟩
    unfold fX9_bits_4
    by_cases e : a = 0
    · subst e
      simp only [zv, zN_lit, if_true]
      rfl
    · obtain ⟨e1, e2⟩ := wb_dec a ha (by omega)
      simp (disch := omega) only [zv, zN_lit, zN_eq, e, if_false, zN_add, zN_sub, wb_and a ha (a - 1) (by omega)]
      rw [ih _ e1 g (s + 1) (by omega) (by omega)]
      congr 3
      omega
theorem vbits' (N : Nat → Nat) (m : XM) {a : Nat} (ha : a < 128) : fX9_bits N (zN a) m = some (zN (zpc a), m) := by
  unfold fX9_bits
  have hX := zXF
  simp only [zN_lit]
  rw [vbits N m a XF 0 (by omega) ha, Nat.zero_add]
section VG
variable {N : Nat → Nat} {P : zP}
theorem yU_v {m m' : XM} (h : yU N m P) (g : vfr m m') : yU N m' P :=
  ⟨h.1, yR_fr (fun k => g.2.2 85 k) h.2.1, h.2.2.1, yMP_fr (fun k => g.1 88 k (by omega)) (fun k => g.1 90 k (by omega)) h.2.2.2⟩
theorem vr_18 (hw : zwf P) (hpm : zpm P) {r8 : Nat → Int32 → Int32 → XM → Option (Int32 × XM)} {had : Nat} (hh : had < 128) : ∀ (d g v s : Nat) (m : XM), d < g → v + d = zn P → s < 128 → yU N m P →
    ∃ m' s', fX9_reached_18 N r8 g 85 (zN s) (zN had) (zN v) m = r8 85 (zN s') (zN had) m' ∧ vfr m m' ∧ s' < 128 ∧ s ≤ s' ∧ ∀ w, w < 7 → (zbi s' w ↔ (zbi s w ∨ ∃ x, v ≤ x ∧ x < zn P ∧ zbi had x ∧ zTo P x w)) := by
  have hz := hw.1
  intro d
  induction d with
  | zero =>
    intro g v s m hg hv hs hU
    obtain ⟨g, rfl⟩ : ∃ j, g = j + 1 := ⟨g - 1, by omega⟩
    obtain ⟨⟨-, -, n88, -⟩, ⟨-, -, g9, -⟩, -, ⟨h0, -⟩⟩ := id hU
    refine ⟨m, s, ?_, vfr_rf m, hs, Nat.le_refl _, fun w _ => ⟨Or.inl, fun h => h.elim id (fun ⟨x, h1, h2, _⟩ => by omega)⟩⟩
    unfold fX9_reached_18
    simp (disch := omega) only [zv, zgr g9, zN_lit, zald, h0, zN_le]
    rw [if_pos (by omega)]
  | succ d ih =>
    intro g v s m hg hv hs hU
    obtain ⟨g, rfl⟩ : ∃ j, g = j + 1 := ⟨g - 1, by omega⟩
    obtain ⟨⟨-, -, n88, -⟩, ⟨-, -, g9, -⟩, -, ⟨h0, -⟩⟩ := id hU
    have hbit := zbi_z hh (show v < 7 by omega)
    have hnv : ¬ zn P ≤ v := by omega
    unfold fX9_reached_18 fX9_reached_48
    simp (disch := omega) only [zv, zgr g9, zN_lit, zald, h0, zN_le, hnv, if_false, hbit, zN_eq]
    by_cases e : had / 2 ^ v % 2 = 1
    · rw [if_pos e]
      obtain ⟨m1, a1, a2⟩ := vc_touched hw hpm (u := v) (by omega) hU
      have hB : zB P v < 128 := zmk7_lt _
      obtain ⟨o1, o2⟩ := zbi_or s hs (zB P v) hB
      obtain ⟨m2, s2, b1, b2, b3, b4, b5⟩ := ih g (v + 1) (s ||| zB P v) m1 (by omega) (by omega) o1 (yU_v hU a2)
      refine ⟨m2, s2, ?_, vfr_tr a2 b2, b3, Nat.le_trans Nat.left_le_or b4, fun w hw' => ?_⟩
      · simp (disch := omega) only [a1, zca, vor, zN_add]
        exact b1
      · rw [b5 w hw']
        have q1 := o2 w hw'
        have q2 := zB_bit (P := P) (u := v) hw'
        unfold zbi at q2 ⊢
        rw [q1, q2]
        constructor
        · rintro ((h | h) | ⟨x, h1, h2, h3, h4⟩)
          · exact Or.inl h
          · exact Or.inr ⟨v, Nat.le_refl _, by omega, e, h⟩
          · exact Or.inr ⟨x, by omega, h2, h3, h4⟩
        · rintro (h | ⟨x, h1, h2, h3, h4⟩)
          · exact Or.inl (Or.inl h)
          · by_cases ex : x = v
            · rw [ex] at h4; exact Or.inl (Or.inr h4)
            · exact Or.inr ⟨x, by omega, h2, h3, h4⟩
    · rw [if_neg e]
      obtain ⟨m2, s2, b1, b2, b3, b4, b5⟩ := ih g (v + 1) s m (by omega) (by omega) hs hU
      refine ⟨m2, s2, ?_, b2, b3, b4, fun w hw' => ?_⟩
      · simp (disch := omega) only [zN_add]
        exact b1
      · rw [b5 w hw']
        constructor
        · rintro (h | ⟨x, h1, h2, h3, h4⟩)
          · exact Or.inl h
          · exact Or.inr ⟨x, by omega, h2, h3, h4⟩
        · rintro (h | ⟨x, h1, h2, h3, h4⟩)
          · exact Or.inl h
          · refine Or.inr ⟨x, ?_, h2, h3, h4⟩
            by_cases ex : x = v
            · rw [ex] at h3; exact absurd h3 e
            · omega
theorem vr_8 (hw : zwf P) (hpm : zpm P) {u : Nat} (hu : u < zn P) : ∀ (d g s had : Nat) (m : XM), d < g → 128 - had ≤ d → s < 128 → had < 128 → had ≤ s → yU N m P → (∀ w, w < 7 → zTo P u w → zbi s w) → (∀ w, w < 7 → zbi s w → zRc P u w) → (∀ x w, x < zn P → w < 7 → zbi had x → zTo P x w → zbi s w) →
    ∃ m', fX9_reached_8 N g 85 (zN s) (zN had) m = some (zN (zRm P u), m') ∧ vfr m m' := by
  have hz := hw.1
  intro d
  induction d with
  | zero => intro g s had m _ h1 _ h2; omega
  | succ d ih =>
    intro g s had m hg hd hs hh hle hU h1 h2 h3
    obtain ⟨g, rfl⟩ : ∃ j, g = j + 1 := ⟨g - 1, by omega⟩
    unfold fX9_reached_8
    by_cases e : s = had
    · refine ⟨m, ?_, vfr_rf m⟩
      have hX : True := trivial
      generalize XF = nf
      simp (disch := omega) only [zv, zN_eq, e, if_true]
      congr 3
      refine zmk7_eq hh (fun v hv => ?_)
      rw [← e]
      constructor
      · exact h2 v hv
      · intro hr
        have := hr (fun w => zbi s w ∧ w < zn P) (fun w hw' => ⟨h1 w (by have := zTo_lt hw hu hw'; omega) hw', zTo_lt hw hu hw'⟩) (fun w x hw' hx => ⟨h3 w x hw'.2 (by have := zTo_lt hw hw'.2 hx; omega) (by rw [← e]; exact hw'.1) hx, zTo_lt hw hw'.2 hx⟩)
        exact this.1
    · have hXF := zXF
      obtain ⟨m1, s1, b1, b2, b3, b4, b5⟩ := vr_18 (N := N) hw hpm (r8 := fun q0 x2 x3 m0 => fX9_reached_8 N g q0 x2 x3 m0) (had := s) hs (zn P) XF 0 s m (by omega) (by omega) hs hU
      obtain ⟨m2, c1, c2⟩ := ih g s1 s m1 (by omega) (by omega) b3 hs b4 (yU_v hU b2) (fun w hw' h => (b5 w hw').2 (Or.inl (h1 w hw' h))) (fun w hw' h => by
        rcases (b5 w hw').1 h with q | ⟨x, -, q2, q3, q4⟩
        · exact h2 w hw' q
        · exact zRc_st (h2 x (by omega) q3) q4) (fun x w hx hw' q1 q2 => (b5 w hw').2 (Or.inr ⟨x, Nat.zero_le _, hx, q1, q2⟩))
      refine ⟨m2, ?_, vfr_tr b2 c2⟩
      generalize XF = nf at b1 ⊢
      simp (disch := omega) only [zv, zN_eq, e, if_false, zN_lit]
      rw [b1]; exact c1
theorem vc_reached (hw : zwf P) (hpm : zpm P) {u : Nat} {m : XM} (hu : u < zn P) (hU : yU N m P) : ∃ m', fX9_reached N 85 (zN u) m = some (zN (zRm P u), m') ∧ vfr m m' := by
  have hX := zXF
  obtain ⟨m1, a1, a2⟩ := vc_touched hw hpm hu hU
  have hB : zB P u < 128 := zmk7_lt _
  obtain ⟨m2, c1, c2⟩ := vr_8 (N := N) hw hpm hu 128 XF (zB P u) 0 m1 (by omega) (by omega) hB (by omega) (Nat.zero_le _) (yU_v hU a2) (fun w hw' h => (zB_bit hw').2 h) (fun w hw' h => zRc_in ((zB_bit hw').1 h)) (fun x w _ _ h => absurd h (zbi_0 x))
  refine ⟨m2, ?_, vfr_tr a2 c2⟩
  unfold fX9_reached
  rw [a1, zca]
  exact c1
/-- rings -/
def zRg (P : zP) (u v : Nat) : Prop := v < zn P ∧ zRc P u v ∧ zRc P v u
theorem vr_ring (hw : zwf P) (hpm : zpm P) {u : Nat} (hu : u < zn P) : ∀ (d g v s : Nat) (m : XM), d < g → v + d = zn P → s < 128 → yU N m P → (∀ w, w < 7 → (zbi s w ↔ (zRg P u w ∧ w < v))) →
    ∃ m', fX9_ring_40 N g 85 (zN u) (zN (zRm P u)) (zN s) (zN v) m = some (zN (zmk7 (zRg P u)), m') ∧ vfr m m' := by
  have hz := hw.1
  have hR : zRm P u < 128 := zmk7_lt _
  intro d
  induction d with
  | zero =>
    intro g v s m hg hv hs hU hb
    obtain ⟨g, rfl⟩ : ∃ j, g = j + 1 := ⟨g - 1, by omega⟩
    obtain ⟨⟨-, -, n88, -⟩, ⟨-, -, g9, -⟩, -, ⟨h0, -⟩⟩ := id hU
    refine ⟨m, ?_, vfr_rf m⟩
    unfold fX9_ring_40
    simp (disch := omega) only [zv, zgr g9, zN_lit, zald, h0, zN_le]
    rw [if_pos (by omega)]
    congr 3
    refine zmk7_eq hs (fun w hw' => ?_)
    rw [hb w hw']
    exact ⟨fun h => h.1, fun h => ⟨h, by have := h.1; omega⟩⟩
  | succ d ih =>
    intro g v s m hg hv hs hU hb
    obtain ⟨g, rfl⟩ : ∃ j, g = j + 1 := ⟨g - 1, by omega⟩
    obtain ⟨⟨-, -, n88, -⟩, ⟨-, -, g9, -⟩, -, ⟨h0, -⟩⟩ := id hU
    have hbit := zbi_z hR (show v < 7 by omega)
    have hnv : ¬ zn P ≤ v := by omega
    have hb1 := zRm_bit (P := P) (u := u) (show v < 7 by omega)
    unfold zbi at hb1
    have hskip : ¬ zRg P u v → ∀ w, w < 7 → (zbi s w ↔ (zRg P u w ∧ w < v + 1)) := fun hno w hw' => by
      rw [hb w hw']
      constructor
      · exact fun h => ⟨h.1, by omega⟩
      · rintro ⟨h1, h2⟩
        refine ⟨h1, ?_⟩
        by_cases e : w = v
        · rw [e] at h1; exact absurd h1 hno
        · omega
    unfold fX9_ring_40 fX9_ring_82
    simp (disch := omega) only [zv, zgr g9, zN_lit, zald, h0, zN_le, hnv, if_false, hbit, zN_eq]
    by_cases e : zRm P u / 2 ^ v % 2 = 1
    · rw [if_pos e]
      obtain ⟨m1, a1, a2⟩ := vc_reached hw hpm (u := v) (by omega) hU
      have hRv : zRm P v < 128 := zmk7_lt _
      have hbit2 := zbi_z hRv (show u < 7 by omega)
      have hb2 := zRm_bit (P := P) (u := v) (show u < 7 by omega)
      unfold zbi at hb2
      have hp := wb_one v (by omega)
      have hp128 : 2 ^ v < 128 := (vB_1 (P := P) (S := fun _ => false) (show v < 7 by omega)).2.2.2.1
      simp (disch := omega) only [a1, zca, zN_lit, hbit2, zN_eq, hp, vor, zN_add]
      by_cases e2 : zRm P v / 2 ^ u % 2 = 1
      · rw [if_pos e2]
        obtain ⟨o1, o2⟩ := zbi_or s hs (2 ^ v) hp128
        obtain ⟨m2, c1, c2⟩ := ih g (v + 1) (s ||| 2 ^ v) m1 (by omega) (by omega) o1 (yU_v hU a2) (fun w hw' => by
          unfold zbi
          rw [o2 w hw']
          have q1 := hb w hw'
          have q2 := zbi_pow (u := v) (v := w)
          unfold zbi at q1 q2
          rw [q1, q2]
          constructor
          · rintro (h | h)
            · exact ⟨h.1, by omega⟩
            · rw [← h]; exact ⟨⟨by omega, hb1.1 e, hb2.1 e2⟩, by omega⟩
          · rintro ⟨h1, h2⟩
            by_cases ew : w = v
            · exact Or.inr ew.symm
            · exact Or.inl ⟨h1, by omega⟩)
        exact ⟨m2, c1, vfr_tr a2 c2⟩
      · rw [if_neg e2]
        obtain ⟨m2, c1, c2⟩ := ih g (v + 1) s m1 (by omega) (by omega) hs (yU_v hU a2) (hskip (fun h => e2 (hb2.2 h.2.2)))
        exact ⟨m2, c1, vfr_tr a2 c2⟩
    · rw [if_neg e]
      simp only [zN_add]
      exact ih g (v + 1) s m (by omega) (by omega) hs hU (hskip (fun h => e (hb1.2 h.2.1)))
end VG
section VH
variable {N : Nat → Nat} {P : zP} {c : Nat}
theorem vc_ring (hw : zwf P) {u : Nat} (hu : u < zn P) {m : XM} (hU : vU N m c P) (hS : vSp m P) : ∀ (d g v s : Nat), d < g → v + d = zn P → s < 128 → (∀ w, w < 7 → (zbi s w ↔ (zRg P u w ∧ w < v))) →
    fX7_ringOf_4 N g 79 (zN u) (zN s) (zN v) m = some (zN (zmk7 (zRg P u)), m) := by
  have hz := hw.1
  have hR : zRm P u < 128 := zmk7_lt _
  obtain ⟨h2, -, h81⟩ := hS
  obtain ⟨-, ⟨-, n81, -⟩, -, -, -, -, ⟨-, g1, -⟩⟩ := hU
  have e1 := h81 u hu
  intro d
  induction d with
  | zero =>
    intro g v s hg hv hs hb
    obtain ⟨g, rfl⟩ : ∃ j, g = j + 1 := ⟨g - 1, by omega⟩
    unfold fX7_ringOf_4
    simp (disch := omega) only [zv, h2, zN_le]
    rw [if_pos (by omega)]
    congr 3
    refine zmk7_eq hs (fun w hw' => ?_)
    rw [hb w hw']
    exact ⟨fun h => h.1, fun h => ⟨h, by have := h.1; omega⟩⟩
  | succ d ih =>
    intro g v s hg hv hs hb
    obtain ⟨g, rfl⟩ : ∃ j, g = j + 1 := ⟨g - 1, by omega⟩
    have hbit := zbi_z hR (show v < 7 by omega)
    have hnv : ¬ zn P ≤ v := by omega
    have hb1 := zRm_bit (P := P) (u := u) (show v < 7 by omega)
    unfold zbi at hb1
    have e2 := h81 v (by omega)
    have hRv : zRm P v < 128 := zmk7_lt _
    have hbit2 := zbi_z hRv (show u < 7 by omega)
    have hb2 := zRm_bit (P := P) (u := v) (show u < 7 by omega)
    unfold zbi at hb2
    have hp := wb_one v (by omega)
    have hp128 : 2 ^ v < 128 := (vB_1 (P := P) (S := fun _ => false) (show v < 7 by omega)).2.2.2.1
    have hskip : ¬ zRg P u v → fX7_ringOf_4 N g 79 (zN u) (zN s) (zN (v + 1)) m = some (zN (zmk7 (zRg P u)), m) := fun hno => ih g (v + 1) s (by omega) (by omega) hs (fun w hw' => by
      rw [hb w hw']
      constructor
      · exact fun h => ⟨h.1, by omega⟩
      · rintro ⟨h1, h2⟩
        refine ⟨h1, ?_⟩
        by_cases e : w = v
        · rw [e] at h1; exact absurd h1 hno
        · omega)
    unfold fX7_ringOf_4 fX7_ringOf_44
    simp (disch := omega) only [zv, h2, zN_le, hnv, if_false, zgr g1, zald, e1, zN_lit, hbit, zN_eq, e2, hbit2, hp, vor, zN_add]
    by_cases k1 : zRm P u / 2 ^ v % 2 = 0
    · rw [if_pos k1]
      exact hskip (fun h => by have := hb1.2 h.2.1; omega)
    · rw [if_neg k1]
      by_cases k2 : zRm P v / 2 ^ u % 2 = 0
      · rw [if_pos k2]
        exact hskip (fun h => by have := hb2.2 h.2.2; omega)
      · rw [if_neg k2]
        obtain ⟨o1, o2⟩ := zbi_or s hs (2 ^ v) hp128
        refine ih g (v + 1) (s ||| 2 ^ v) (by omega) (by omega) o1 (fun w hw' => ?_)
        unfold zbi
        rw [o2 w hw']
        have q1 := hb w hw'
        have q2 := zbi_pow (u := v) (v := w)
        unfold zbi at q1 q2
        rw [q1, q2]
        constructor
        · rintro (h | h)
          · exact ⟨h.1, by omega⟩
          · rw [← h]; exact ⟨⟨by omega, hb1.1 (by omega), hb2.1 (by omega)⟩, by omega⟩
        · rintro ⟨h1, h2⟩
          by_cases ew : w = v
          · exact Or.inr ew.symm
          · exact Or.inl ⟨h1, by omega⟩
end VH
