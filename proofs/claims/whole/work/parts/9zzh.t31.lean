/-! ===== t: names become numbers, of the other reader ===== -/
/-- units and members alone -/
def rU (w : XM) (Q : pQ) : Prop := gi w 89 0 = zN (qn Q) ∧ (∀ u, u < qn Q → gi w 89 (5 + 15 * u) = zN (qlet Q u) ∧ gi w 89 (5 + 15 * u + 1) = zopt (qabv Q u) ∧ gi w 89 (5 + 15 * u + 2) = zN (qcnt Q u) ∧ ∀ i, i < qcnt Q u → gi w 89 (5 + 15 * u + 3 + i) = zN (qbs (qcnt Q) u + i)) ∧ ∀ x, qok Q x → gi w 89 (110 + 5 * qid Q x) = zN (qknd Q x) ∧ (qknd Q x ≠ 3 → gi w 89 (110 + 5 * qid Q x + 1) = zopt (qnam Q x))
section SG
variable {N : Nat → Nat} {Q : pQ} {DL : List pD} {nt na : Nat} {w w' : XM} {K : Nat → Int32}
theorem rU_fr (hW : qW Q) (h : rU w Q) (g : ∀ k, k < 530 → k ≠ 2 → k ≠ 3 → gi w' 89 k = gi w 89 k) : rU w' Q := by
  have hn := hW.1
  obtain ⟨h1, h2, h3⟩ := h
  refine ⟨by rw [g _ (by omega) (by omega) (by omega)]; exact h1, fun u hu => ?_, fun x hx => ?_⟩
  · have hc := (hW.2.1 u hu).1
    obtain ⟨q1, q2, q3, q4⟩ := h2 u hu
    exact ⟨by rw [g _ (by omega) (by omega) (by omega)]; exact q1, by rw [g _ (by omega) (by omega) (by omega)]; exact q2, by rw [g _ (by omega) (by omega) (by omega)]; exact q3, fun i hi => by rw [g _ (by omega) (by omega) (by omega)]; exact q4 i hi⟩
  · have := (qid_lt hW hx).2.1
    rw [g _ (by omega) (by omega) (by omega), g _ (by omega) (by omega) (by omega)]
    exact h3 x hx
theorem r_uby0 (hN : rN N w) (hQ : rU w Q) (hW : qW Q) {L : Nat} (hL : L < 7) : fX9_unitBy N 89 (zN L) w = some (zopt (qul Q L), w) := by
  have hX := zXF
  have hn := hW.1
  have hu := hW.2.2.2.1
  obtain ⟨n1, n2⟩ := hN
  have key : ∀ (g f u : Nat), qn Q - u = g → g < f → u ≤ qn Q → (∀ v, v < u → qlet Q v ≠ L) → fX9_unitBy_2 N f 89 (zN L) (zN u) w = some (zopt (qul Q L), w) := by
    intro g
    induction g with
    | zero =>
      intro f u hg hf hun hv
      obtain ⟨f, rfl⟩ : ∃ f', f = f' + 1 := ⟨f - 1, by omega⟩
      have e : qul Q L = none := by
        cases h : qul Q L with
        | none => rfl
        | some u0 =>
          have := (hu L u0 hL).1 h
          exact absurd this.2 (hv u0 (by omega))
      rw [fX9_unitBy_2]
      simp only [zN_lit, zv]
      rw [zald (by omega) (by omega), hQ.1]
      simp (disch := omega) only [zN_le]
      rw [if_pos (show qn Q ≤ u by omega), e]
      rfl
    | succ g ih =>
      intro f u hg hf hun hv
      obtain ⟨f, rfl⟩ : ∃ f', f = f' + 1 := ⟨f - 1, by omega⟩
      have hlu := hW.2.1 u (by omega)
      have e1 := (hQ.2.1 u (by omega)).1
      rw [fX9_unitBy_2]
      simp only [zN_lit, zv]
      rw [zald (by omega) (by omega), hQ.1]
      simp (disch := omega) only [zN_le]
      rw [if_neg (show ¬ qn Q ≤ u by omega)]
      unfold fX9_unitOf
      simp (disch := omega) only [zv, zN_lit, zN_mul, zN_add, zald, Nat.add_zero, e1, zca, zN_eq]
      by_cases q : qlet Q u = L
      · rw [if_pos q, (hu L u hL).2 ⟨by omega, q⟩]
        rfl
      · rw [if_neg q]
        exact ih f (u + 1) (by omega) (by omega) (by omega) (fun v hv' => by
          by_cases e : v = u
          · rw [e]; exact q
          · exact hv v (by omega))
  unfold fX9_unitBy
  simp only [zN_lit]
  exact key (qn Q) XF 0 (by omega) (by omega) (by omega) (fun v hv => by omega)
theorem r_nmd0 (hN : rN N w) (hQ : rU w Q) (hW : qW Q) {u a : Nat} (hu : u < qn Q) (ha : a < 26) : fX9_named N 89 (zN u) (zN a) w = some (zopt ((qnm Q u a).map (qid Q)), w) := by
  have hX := zXF
  have hn := hW.1
  have hnm := hW.2.2.2.2.1
  have hc := (hW.2.1 u hu).1
  have hbs := qbs_le hW u (by omega)
  obtain ⟨n1, n2⟩ := hN
  obtain ⟨-, -, e2, e3⟩ := hQ.2.1 u hu
  have key : ∀ (g f i : Nat), qcnt Q u - i = g → g < f → i ≤ qcnt Q u → (∀ j, j < i → ¬ ((qknd Q (12 * u + j) = 0 ∨ qknd Q (12 * u + j) = 1 ∨ qknd Q (12 * u + j) = 4) ∧ qnam Q (12 * u + j) = some a)) → fX9_named_2 N f 89 (zN u) (zN a) (zN i) w = some (zopt ((qnm Q u a).map (qid Q)), w) := by
    intro g
    induction g with
    | zero =>
      intro f i hg hf hi hv
      obtain ⟨f, rfl⟩ : ∃ f', f = f' + 1 := ⟨f - 1, by omega⟩
      have e : qnm Q u a = none := by
        cases h : qnm Q u a with
        | none => rfl
        | some x =>
          obtain ⟨q1, q2, q3, q4⟩ := (hnm u a x ha).1 h
          have q5 := q1.2
          rw [q2] at q5
          have ex : x = 12 * u + x % 12 := by omega
          have hvx := hv (x % 12) (by omega)
          rw [← ex] at hvx
          exact absurd ⟨q3, q4⟩ hvx
      rw [fX9_named_2]
      unfold fX9_unitOf
      simp (disch := omega) only [zv, zN_lit, zN_mul, zN_add, zald, e2, zca, zN_le]
      rw [if_pos (show qcnt Q u ≤ i by omega), e]
      rfl
    | succ g ih =>
      intro f i hg hf hi hv
      obtain ⟨f, rfl⟩ : ∃ f', f = f' + 1 := ⟨f - 1, by omega⟩
      have hok : qok Q (12 * u + i) := ⟨by omega, by rw [show (12 * u + i) / 12 = u by omega]; omega⟩
      have hid : qid Q (12 * u + i) = qbs (qcnt Q) u + i := by
        unfold qid
        rw [show (12 * u + i) / 12 = u by omega, show (12 * u + i) % 12 = i by omega]
      obtain ⟨p1, p2⟩ := hQ.2.2 _ hok
      rw [hid] at p1 p2
      obtain ⟨k1, k2, k3⟩ := hW.2.2.2.2.2.1 _ hok
      have e3i := e3 i (by omega)
      have hgo : ¬ ((qknd Q (12 * u + i) = 0 ∨ qknd Q (12 * u + i) = 1 ∨ qknd Q (12 * u + i) = 4) ∧ qnam Q (12 * u + i) = some a) → fX9_named_60 N (fun q0 x1 x2 x3 m0 => fX9_named_2 N f q0 x1 x2 x3 m0) 89 (zN u) (zN a) (zN i) w = some (zopt ((qnm Q u a).map (qid Q)), w) := fun q => by
        unfold fX9_named_60
        simp only [zv, zN_lit, zN_add]
        exact ih f (i + 1) (by omega) (by omega) (by omega) (fun j hj => by
          by_cases e : j = i
          · rw [e]; exact q
          · exact hv j (by omega))
      have h46 : (qknd Q (12 * u + i) = 0 ∨ qknd Q (12 * u + i) = 1 ∨ qknd Q (12 * u + i) = 4) → fX9_named_46 N (fun q0 x1 x2 x3 m0 => fX9_named_2 N f q0 x1 x2 x3 m0) 89 (zN u) (zN a) (zN i) (zN (qbs (qcnt Q) u + i)) w = some (zopt ((qnm Q u a).map (qid Q)), w) := fun q => by
        have p2' := p2 (by omega)
        unfold fX9_named_46 fX9_ofMember
        simp (disch := omega) only [zv, zN_lit, zN_mul, zN_add, zald, p2', zca]
        simp (disch := omega) only [zopt_eq (fun c hc => by have := k2 c hc; omega)]
        by_cases e : qnam Q (12 * u + i) = some a
        · rw [if_pos e, (hnm u a (12 * u + i) ha).2 ⟨hok, by omega, q, e⟩]
          show _ = some (zN (qid Q (12 * u + i)), w)
          rw [hid]
        · rw [if_neg e]
          exact hgo (fun r => e r.2)
      rw [fX9_named_2]
      unfold fX9_unitOf fX9_memberAt fX9_ofMember
      simp (disch := omega) only [zv, zN_lit, zN_mul, zN_add, zald, e2, zca, zN_le, Nat.add_zero]
      rw [if_neg (show ¬ qcnt Q u ≤ i by omega)]
      simp (disch := omega) only [e3i, zN_mul, zN_add, zald, Nat.add_zero, p1, zca, zN_eq]
      by_cases q0 : qknd Q (12 * u + i) = 0
      · rw [if_pos q0]; exact h46 (Or.inl q0)
      rw [if_neg q0]
      by_cases q1 : qknd Q (12 * u + i) = 1
      · rw [if_pos q1]; exact h46 (Or.inr (Or.inl q1))
      rw [if_neg q1]
      by_cases q4 : qknd Q (12 * u + i) = 4
      · rw [if_pos q4]; exact h46 (Or.inr (Or.inr q4))
      rw [if_neg q4]
      exact hgo (fun r => by omega)
  unfold fX9_named
  simp only [zN_lit]
  exact key (qcnt Q u) XF 0 (by omega) (by omega) (by omega) (fun j hj => by omega)
/-- how far names have become numbers: terms below t, acts below a -/
def qIv (w : XM) (Q : pQ) (DL : List pD) (t a : Nat) (w' : XM) : Prop := ((∀ z k, z ≠ 89 → gi w' z k = gi w z k) ∧ (∀ z k, gr w' z k = gr w z k) ∧ ∀ z k, gl w' z k = gl w z k)
  ∧ (∀ k, (∀ t', t' < t → k ≠ 1410 + 6 * t' + 2 ∧ k ≠ 1410 + 6 * t' + 3) → (∀ a', a' < a → k ≠ 530 + 4 * a' ∧ k ≠ 530 + 4 * a' + 1) → gi w' 89 k = gi w 89 k)
  ∧ (∀ t', t' < t → (∀ q ∈ pcs DL, q.1 = 1 ∨ q.1 = 2 → pleaf (gi w 89) t' q → ∃ x, qlk Q q.2.1 = some x ∧ gi w' 89 (1410 + 6 * t' + 2) = zN (x / 12) ∧ gi w' 89 (1410 + 6 * t' + 3) = zN (qid Q x)) ∧ (¬ gi w 89 (1410 + 6 * t' + 1) = zN 1 → ¬ gi w 89 (1410 + 6 * t' + 1) = zN 2 → gi w' 89 (1410 + 6 * t' + 2) = gi w 89 (1410 + 6 * t' + 2) ∧ gi w' 89 (1410 + 6 * t' + 3) = gi w 89 (1410 + 6 * t' + 3)))
  ∧ ∀ a', a' < a → (∀ D ∈ DL, ∀ s, D.2 = some s → pacT (gi w 89) a' s → ∃ x, qlk Q s.1 = some x ∧ gi w' 89 (530 + 4 * a') = zN (x / 12) ∧ gi w' 89 (530 + 4 * a' + 1) = zN (qid Q x)) ∧ (gi w 89 (530 + 4 * a') = zM → gi w' 89 (530 + 4 * a') = zM)
theorem r_lk0 (hN : rN N w) (hU : rU w Q) (hW : qW Q) {key x : Nat} (hk : key < 182) (hl : qlk Q key = some x) : fX9_unitBy N 89 (zN (key / 26)) w = some (zN (x / 12), w) ∧ fX9_named N 89 (zN (x / 12)) (zN (key % 26)) w = some (zN (qid Q x), w) := by
  have huby := r_uby0 hN hU hW (L := key / 26) (by omega)
  cases e : qul Q (key / 26) with
  | none => unfold qlk at hl; rw [e] at hl; simp at hl
  | some u =>
    have hu := ((hW.2.2.2.1 (key / 26) u (by omega)).1 e).1
    have h2 : qnm Q u (key % 26) = some x := by unfold qlk at hl; rw [e] at hl; exact hl
    have hx := ((hW.2.2.2.2.1 u (key % 26) x (Nat.mod_lt _ (by omega))).1 h2).2.1
    rw [hx, huby, e, r_nmd0 hN hU hW hu (Nat.mod_lt _ (by omega)), h2]
    exact ⟨rfl, rfl⟩
theorem r_bin2 (hN : rN N w) (hU : rU w Q) (hW : qW Q) (hnt : nt ≤ 300) (h3 : gi w 89 3 = zN nt) (hf : pfl (gi w 89) 0 nt (pcs DL)) (hpl : ∀ q ∈ pcs DL, q.1 = 1 ∨ q.1 = 2 → q.2.2 ≤ 600) (hb : ∀ q ∈ pcs DL, ¬ qbc Q q) : ∀ (g f t : Nat) (w1 : XM), nt - t = g → g < f → t ≤ nt → qIv w Q DL t 0 w1 → ∃ w2, qIv w Q DL nt 0 w2 ∧ fX9_binds_2 N f 85 (zN t) w1 = fX9_binds_105 N XF 85 (zN 0) w2 := by
  intro g
  induction g with
  | zero =>
    intro f t w1 hg hf' ht hI
    obtain ⟨f, rfl⟩ : ∃ g, f = g + 1 := ⟨f - 1, by omega⟩
    obtain ⟨n1, n2⟩ := rN_g hN hI.1.2.1
    have h3' : gi w1 89 3 = zN nt := by rw [hI.2.1 _ (fun t' _ => by omega) (fun a' q => by omega)]; exact h3
    refine ⟨w1, by rw [show nt = t by omega]; exact hI, ?_⟩
    rw [fX9_binds_2, zv, zgr n2]
    simp (disch := omega) only [zN_lit, zald, h3', zN_le]
    rw [if_pos (show nt ≤ t by omega)]
  | succ g ih =>
    intro f t w1 hg hf' ht hI
    obtain ⟨f, rfl⟩ : ∃ g, f = g + 1 := ⟨f - 1, by omega⟩
    have hN1 := rN_g hN hI.1.2.1
    obtain ⟨n1, n2⟩ := id hN1
    have hsm : ∀ k, (∀ t', t' < t → k ≠ 1410 + 6 * t' + 2 ∧ k ≠ 1410 + 6 * t' + 3) → gi w1 89 k = gi w 89 k := fun k q => hI.2.1 k q (fun a' r => by omega)
    have h3' : gi w1 89 3 = zN nt := by rw [hsm _ (fun t' _ => by omega)]; exact h3
    have hrow : ∀ o, o < 6 → gi w1 89 (1410 + 6 * t + o) = gi w 89 (1410 + 6 * t + o) := fun o ho => hsm _ (fun t' _ => by omega)
    have e0 : fX9_binds_2 N (f + 1) 85 (zN t) w1 = (if gi w 89 (1410 + 6 * t + 1) = zN 1 ∨ gi w 89 (1410 + 6 * t + 1) = zN 2 then (fX9_binds_43 N (fun q0 x1 m0 => fX9_binds_2 N f q0 x1 m0) 85 (zN t) (zN (1410 + 6 * t)) w1) else (fX9_binds_2 N f 85 (zN (t + 1)) w1)) := by
      rw [fX9_binds_2, zv, zgr n2]
      simp (disch := omega) only [zN_lit, zald, h3', zN_le]
      rw [if_neg (show ¬ nt ≤ t by omega)]
      unfold fX9_binds_97
      simp (disch := omega) only [zgr n2, zv, zN_lit, zN_mul, zN_add, zald, hrow]
      by_cases r1 : gi w 89 (1410 + 6 * t + 1) = zN 1
      · rw [if_pos r1, if_pos (Or.inl r1)]
      · rw [if_neg r1]
        by_cases r2 : gi w 89 (1410 + 6 * t + 1) = zN 2
        · rw [if_pos r2, if_pos (Or.inr r2)]
        · rw [if_neg r2, if_neg (fun r => r.elim r1 r2)]
    by_cases hk : gi w 89 (1410 + 6 * t + 1) = zN 1 ∨ gi w 89 (1410 + 6 * t + 1) = zN 2
    · obtain ⟨q, hq1, hq2, hq3⟩ := hf.1 t (Nat.zero_le _) (by omega) hk
      obtain ⟨a1, a2, a3, a4, a5⟩ := pleaf_k hq3 hq2
      have hlx : ∃ x, qlk Q q.2.1 = some x := by
        cases hl : qlk Q q.2.1 with
        | none => exact absurd ⟨hq2, fun ⟨x, hx, _⟩ => by rw [hl] at hx; simp at hx⟩ (hb q hq1)
        | some x => exact ⟨x, rfl⟩
      obtain ⟨x, hl⟩ := hlx
      have hU1 : rU w1 Q := rU_fr hW hU (fun k r1 r2 r3 => hsm k (fun t' _ => by omega))
      have hx84 := (qid_lt hW (qlk_ok hW hl).1)
      obtain ⟨l1, l2⟩ := r_lk0 hN1 hU1 hW a5 hl
      generalize hwA : si w1 89 (1410 + 6 * t + 2) (zN (x / 12)) = wA
      have hUA : rU wA Q := rU_fr hW hU1 (fun k r1 r2 r3 => by rw [← hwA, gi_ne (by omega)])
      have hNA : rN N wA := rN_g hN1 (fun z k => by rw [← hwA]; rfl)
      obtain ⟨l1', l2'⟩ := r_lk0 hNA hUA hW a5 hl
      have hA2 : gi wA 89 (1410 + 6 * t + 2) = zN (x / 12) := by rw [← hwA, gi_si]
      have hA3 : gi wA 89 (1410 + 6 * t + 3) = zN (q.2.1 % 26) := by rw [← hwA, gi_ne (by omega), hrow 3 (by omega)]; exact a3
      have e43 : fX9_binds_43 N (fun q0 x1 m0 => fX9_binds_2 N f q0 x1 m0) 85 (zN t) (zN (1410 + 6 * t)) w1 = fX9_binds_2 N f 85 (zN (t + 1)) (si wA 89 (1410 + 6 * t + 3) (zN (qid Q x))) := by
        obtain ⟨nA1, nA2⟩ := id hNA
        unfold fX9_binds_43 fX9_binds_97
        simp (disch := omega) only [zgr n2, zv, zN_lit, zN_add, zald, hrow 2 (by omega), a2, l1, zca, zast]
        rw [hwA]
        simp (disch := omega) only [zgr nA2, zald, hA2, hA3, l2', zca, zast]
      rw [e0, if_pos hk, e43]
      refine ih f (t + 1) _ (by omega) (by omega) (by omega) ⟨⟨fun z k r => by rw [gi_ne (by omega), ← hwA, gi_ne (by omega)]; exact hI.1.1 z k r, fun z k => by rw [gr_si, ← hwA, gr_si]; exact hI.1.2.1 z k, fun z k => by rw [gl_si, ← hwA, gl_si]; exact hI.1.2.2 z k⟩, fun k r1 r2 => ?_, fun t' ht' => ?_, fun a' r => by omega⟩
      · have r3 := r1 t (by omega)
        rw [gi_ne (by omega), ← hwA, gi_ne (by omega)]
        exact hsm k (fun t' ht' => r1 t' (by omega))
      · by_cases e : t' = t
        · rw [e]
          refine ⟨fun q' r1 r2 r3 => ?_, fun r1 r2 => absurd hk (fun r => r.elim r1 r2)⟩
          have hqq := pleaf_eq r3 hq3 r2 hq2 (hpl q' r1 r2) (hpl q hq1 hq2)
          rw [hqq]
          exact ⟨x, hl, by rw [gi_ne (by omega)]; exact hA2, gi_si _ _ _ _⟩
        · obtain ⟨j1, j2⟩ := hI.2.2.1 t' (by omega)
          rw [gi_ne (by omega), gi_ne (by omega), ← hwA, gi_ne (by omega), gi_ne (by omega)]
          exact ⟨j1, j2⟩
    · rw [e0, if_neg hk]
      refine ih f (t + 1) w1 (by omega) (by omega) (by omega) ⟨hI.1, fun k r1 r2 => hsm k (fun t' ht' => r1 t' (by omega)), fun t' ht' => ?_, fun a' r => by omega⟩
      by_cases e : t' = t
      · rw [e]
        refine ⟨fun q' r1 r2 r3 => ?_, fun r1 r2 => ⟨hrow 2 (by omega), hrow 3 (by omega)⟩⟩
        have := (pleaf_k r3 r2).1
        rcases r2 with r | r
        · rw [r] at this; exact absurd (Or.inl this) hk
        · rw [r] at this; exact absurd (Or.inr this) hk
      · exact hI.2.2.1 t' (by omega)
theorem r_bin105 (hN : rN N w) (hU : rU w Q) (hW : qW Q) (hnt : nt ≤ 300) (hna : na ≤ 150) (h2 : gi w 89 2 = zN na) (hf : pafl (gi w 89) na DL) (hpl : ∀ D ∈ DL, ∀ s, D.2 = some s → s.2 ≤ 600) (hb : ∀ D ∈ DL, ∀ s, D.2 = some s → ¬ qbt Q s) : ∀ (g f a : Nat) (w1 : XM), na - a = g → g < f → a ≤ na → qIv w Q DL nt a w1 → ∃ w2, qIv w Q DL nt na w2 ∧ fX9_binds_105 N f 85 (zN a) w1 = some w2 := by
  intro g
  induction g with
  | zero =>
    intro f a w1 hg hf' ht hI
    obtain ⟨f, rfl⟩ : ∃ g, f = g + 1 := ⟨f - 1, by omega⟩
    obtain ⟨n1, n2⟩ := rN_g hN hI.1.2.1
    have h2' : gi w1 89 2 = zN na := by rw [hI.2.1 _ (fun t' _ => by omega) (fun a' q => by omega)]; exact h2
    refine ⟨w1, by rw [show na = a by omega]; exact hI, ?_⟩
    rw [fX9_binds_105, zv, zgr n2]
    simp (disch := omega) only [zN_lit, zald, h2', zN_le]
    rw [if_pos (show na ≤ a by omega)]
  | succ g ih =>
    intro f a w1 hg hf' ht hI
    obtain ⟨f, rfl⟩ : ∃ g, f = g + 1 := ⟨f - 1, by omega⟩
    have hN1 := rN_g hN hI.1.2.1
    obtain ⟨n1, n2⟩ := id hN1
    have hsm : ∀ k, k < 1410 → (∀ a', a' < a → k ≠ 530 + 4 * a' ∧ k ≠ 530 + 4 * a' + 1) → gi w1 89 k = gi w 89 k := fun k hk q => hI.2.1 k (fun t' r => by omega) q
    have h2' : gi w1 89 2 = zN na := by rw [hsm _ (by omega) (fun t' _ => by omega)]; exact h2
    have hrow : ∀ o, o < 4 → gi w1 89 (530 + 4 * a + o) = gi w 89 (530 + 4 * a + o) := fun o ho => hsm _ (by omega) (fun t' _ => by omega)
    have hrow0 : gi w1 89 (530 + 4 * a) = gi w 89 (530 + 4 * a) := hsm _ (by omega) (fun t' _ => by omega)
    by_cases hk : gi w 89 (530 + 4 * a) = zM
    · have e0 : fX9_binds_105 N (f + 1) 85 (zN a) w1 = fX9_binds_105 N f 85 (zN (a + 1)) w1 := by
        rw [fX9_binds_105, zv, zgr n2]
        simp (disch := omega) only [zN_lit, zald, h2', zN_le]
        rw [if_neg (show ¬ na ≤ a by omega)]
        unfold fX9_binds_184
        simp (disch := omega) only [zgr n2, zv, zN_lit, zN_mul, zN_add, zald, hrow0, hk, zneg, if_true]
      rw [e0]
      refine ih f (a + 1) w1 (by omega) (by omega) (by omega) ⟨hI.1, fun k r1 r2 => hI.2.1 k r1 (fun a' ha' => r2 a' (by omega)), hI.2.2.1, fun a' ha' => ?_⟩
      by_cases e : a' = a
      · rw [e]
        refine ⟨fun D r1 s r2 r3 => ?_, fun _ => by rw [hrow0]; exact hk⟩
        have := r3.1
        rw [hk, zm_N (by have := r3.2.2.2; omega)] at this
        exact this.elim
      · exact hI.2.2.2 a' (by omega)
    · obtain ⟨D, hD, s, hs, hp⟩ := hf.1 a (by omega) hk
      obtain ⟨a1, a2, a3, a4⟩ := id hp
      have hlx : ∃ x, qlk Q s.1 = some x := by
        cases hl : qlk Q s.1 with
        | none => exact absurd (fun ⟨x, hx, _⟩ => by rw [hl] at hx; simp at hx) (hb D hD s hs)
        | some x => exact ⟨x, rfl⟩
      obtain ⟨x, hl⟩ := hlx
      have hU1 : rU w1 Q := rU_fr hW hU (fun k r1 r2 r3 => hsm k (by omega) (fun t' _ => by omega))
      have hx84 := (qid_lt hW (qlk_ok hW hl).1)
      obtain ⟨l1, l2⟩ := r_lk0 hN1 hU1 hW a4 hl
      generalize hwA : si w1 89 (530 + 4 * a) (zN (x / 12)) = wA
      have hUA : rU wA Q := rU_fr hW hU1 (fun k r1 r2 r3 => by rw [← hwA, gi_ne (by omega)])
      have hNA : rN N wA := rN_g hN1 (fun z k => by rw [← hwA]; rfl)
      obtain ⟨l1', l2'⟩ := r_lk0 hNA hUA hW a4 hl
      have hA2 : gi wA 89 (530 + 4 * a) = zN (x / 12) := by rw [← hwA, gi_si]
      have hA3 : gi wA 89 (530 + 4 * a + 1) = zN (s.1 % 26) := by rw [← hwA, gi_ne (by omega), hrow 1 (by omega)]; exact a2
      have hnm : ¬ zN (s.1 / 26) = zM := by rw [zN_m (by omega)]; exact id
      have e0 : fX9_binds_105 N (f + 1) 85 (zN a) w1 = fX9_binds_105 N f 85 (zN (a + 1)) (si wA 89 (530 + 4 * a + 1) (zN (qid Q x))) := by
        obtain ⟨nA1, nA2⟩ := id hNA
        rw [fX9_binds_105, zv, zgr n2]
        simp (disch := omega) only [zN_lit, zald, h2', zN_le]
        rw [if_neg (show ¬ na ≤ a by omega)]
        unfold fX9_binds_184
        simp (disch := omega) only [zgr n2, zv, zN_lit, zN_mul, zN_add, zald, hrow0, a1, zneg, hnm, if_false, l1, zca, zast]
        rw [hwA]
        simp (disch := omega) only [zgr nA2, zald, hA2, hA3, l2', zca, zast]
      rw [e0]
      refine ih f (a + 1) _ (by omega) (by omega) (by omega) ⟨⟨fun z k r => by rw [gi_ne (by omega), ← hwA, gi_ne (by omega)]; exact hI.1.1 z k r, fun z k => by rw [gr_si, ← hwA, gr_si]; exact hI.1.2.1 z k, fun z k => by rw [gl_si, ← hwA, gl_si]; exact hI.1.2.2 z k⟩, fun k r1 r2 => ?_, fun t' ht' => ?_, fun a' ha' => ?_⟩
      · have r3 := r2 a (by omega)
        rw [gi_ne (by omega), ← hwA, gi_ne (by omega)]
        exact hI.2.1 k r1 (fun a' ha' => r2 a' (by omega))
      · rw [gi_ne (by omega), gi_ne (by omega), ← hwA, gi_ne (by omega), gi_ne (by omega)]
        exact hI.2.2.1 t' ht'
      · by_cases e : a' = a
        · rw [e]
          refine ⟨fun D' r1 s' r2 r3 => ?_, fun r => absurd r hk⟩
          have hss := pacT_eq r3 hp (hpl D' r1 s' r2) (hpl D hD s hs)
          rw [hss]
          exact ⟨x, hl, by rw [gi_ne (by omega)]; exact hA2, gi_si _ _ _ _⟩
        · rw [gi_ne (by omega), gi_ne (by omega), ← hwA, gi_ne (by omega), gi_ne (by omega)]
          exact hI.2.2.2 a' (by omega)
end SG
