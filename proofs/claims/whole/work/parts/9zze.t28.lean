/-! ===== t: all names of the draft ===== -/
section SD
variable {N : Nat → Nat} {d : Nat} {Q : pQ}
theorem c_rt {m : XM} (hR : cR N d m) (hQ : cQ m d Q) (hW : qW Q) {k : Nat} {t : Nat × Nat} (hc : k < 300) (hk : t.1 < 182) (e1 : gi m (d + 17) k = zN t.1) (e3 : gi m 23 k = zN t.2) :
    (qbt Q t → fX1_resolveTarget N 2 (zN k) m = some (zN 0, si (si m 2 12 (zN 5)) 2 13 (zN t.2))) ∧ (¬ qbt Q t → ∃ x, qlk Q t.1 = some x ∧ qknd Q x = 1 ∧ fX1_resolveTarget N 2 (zN k) m = some (zN 1, si m (d + 17) k (zN x))) := by
  have hlk := c_lk hR hQ hW hk
  obtain ⟨hd, ⟨-, -, -, n4, -, -, -, -, -, -, -, -, -, -, -, n17⟩, ⟨-, -, n23⟩, ⟨-, -, -, g4, -, -, -, -, -, -, -, g13, -, -, -, -, s6⟩, g0, -, -, g3⟩ := hR
  have e35 : fX1_resolveTarget_35 N 2 (zN k) m = some (zN 0, si (si m 2 12 (zN 5)) 2 13 (zN t.2)) := by
    unfold fX1_resolveTarget_35
    rw [zgr g3, zald (by omega) (by omega), e3, c_rn 0, zca, znbN0]
  have e0 : fX1_resolveTarget N 2 (zN k) m = (if zopt (qlk Q t.1) = zM then (fX1_resolveTarget_35 N 2 (zN k) m) else (xald N m (d + 4) (zopt (qlk Q t.1)) fun v9 => if (v9 : Int32) = zN 1 then (xast N m (d + 17) (zN k) (zopt (qlk Q t.1)) fun m13 => some (zN 1, m13)) else (fX1_resolveTarget_35 N 2 (zN k) m))) := by
    unfold fX1_resolveTarget
    rw [zgr g0, zgr g13, zgr s6, zald (by omega) (by omega), e1, hlk, zca]
    simp only [zN_lit, zneg, zgr g0, zgr g4, zgr g13, zgr s6]
  cases hl : qlk Q t.1 with
  | none =>
    refine ⟨fun _ => ?_, fun hn => absurd (fun ⟨x, hx, _⟩ => by rw [hl] at hx; simp at hx) hn⟩
    rw [e0, hl, if_pos (show zopt none = zM from rfl)]; exact e35
  | some x =>
    obtain ⟨hok, hkk⟩ := qlk_ok hW hl
    have hx84 := (qid_lt hW hok).2.2
    obtain ⟨f4, -⟩ := hQ.2.2.2.2.1 x hok
    have e0' : fX1_resolveTarget N 2 (zN k) m = (if qknd Q x = 1 then (some (zN 1, si m (d + 17) k (zN x))) else (fX1_resolveTarget_35 N 2 (zN k) m)) := by
      rw [e0, hl, if_neg (by rw [show zopt (some x) = zN x from rfl, zN_m (by omega)]; exact id)]
      show (xald N m (d + 4) (zN x) fun v9 => if (v9 : Int32) = zN 1 then (xast N m (d + 17) (zN k) (zN x) fun m13 => some (zN 1, m13)) else (fX1_resolveTarget_35 N 2 (zN k) m)) = _
      rw [zald (by omega) (by omega), f4]
      simp (disch := omega) only [zN_eq, zast]
    by_cases h1 : qknd Q x = 1
    · refine ⟨fun hb => absurd ⟨x, hl, h1⟩ hb, fun _ => ⟨x, rfl, h1, ?_⟩⟩
      rw [e0', if_pos h1]
    · refine ⟨fun _ => ?_, fun hn => absurd (fun ⟨x', hx', hr⟩ => by
        rw [hl] at hx'
        have e : x = x' := by simpa using hx'
        rw [← e] at hr
        exact h1 hr) hn⟩
      rw [e0', if_neg h1]; exact e35
theorem c_cods (hW : qW Q) (hV : qV Q) {e k : Nat} (hk : k < 300) (he : e ≤ 600) (r10 : Nat → Nat → Int32 → XM → Option (Int32 × XM)) : ∀ (l : List pK) (c F : Nat) (m : XM), l.length < F → cR N d m → cQ m d Q → e = c + l.length → gi m (d + 16) k = zN e → pcod m d c l → (∀ q ∈ l, q.1 < 7 ∧ (q.1 = 1 ∨ q.1 = 2 → q.2.1 < 182)) →
    (∃ l1 q l2 m', l = l1 ++ q :: l2 ∧ (∀ q' ∈ l1, ¬ qbc Q q') ∧ qbc Q q ∧ fX1_resolveAll_45 N r10 F 2 (d + 12) (zN k) (zN c) m = some (zN 0, m') ∧ gi m' 2 12 = zN 5 ∧ gi m' 2 13 = zN q.2.2 ∧ cV d c 300 m m')
    ∨ ((∀ q ∈ l, ¬ qbc Q q) ∧ ∃ m', fX1_resolveAll_45 N r10 F 2 (d + 12) (zN k) (zN c) m = r10 2 (d + 12) (zN (k + 1)) m' ∧ zcod m' d c (l.map (qrc Q)) ∧ (∀ z j, ¬ ((z = d + 13 ∨ z = d + 14) ∧ c ≤ j ∧ j < e) → gi m' z j = gi m z j) ∧ (∀ z j, gr m' z j = gr m z j) ∧ ∀ z j, gl m' z j = gl m z j) := by
  intro l
  induction l with
  | nil =>
    intro c F m hF hR hQ hc h16 hp hq
    obtain ⟨F, rfl⟩ : ∃ f, F = f + 1 := ⟨F - 1, by omega⟩
    have hc' : e = c := by simpa using hc
    obtain ⟨hd, ⟨-, -, -, -, -, -, -, -, -, -, -, n13, -, -, n16, -⟩, -, ⟨-, -, -, -, -, -, -, -, -, -, -, g13, s1, s2, s4, s5, -⟩, -⟩ := hR
    refine Or.inr ⟨fun q h => by simp at h, m, ?_, trivial, fun _ _ _ => rfl, fun _ _ => rfl, fun _ _ => rfl⟩
    rw [fX1_resolveAll_45, zv, zgr s5, zald (by omega) (by omega), h16]
    simp (disch := omega) only [zN_le, zN_lit, zv, zN_add]
    rw [if_pos (show e ≤ c by omega)]
  | cons q l ih =>
    intro c F m hF hR hQ hc h16 hp hq
    obtain ⟨F, rfl⟩ : ∃ f, F = f + 1 := ⟨F - 1, by omega⟩
    have hc' : e = c + (l.length + 1) := hc
    have hF' : l.length + 1 < F + 1 := hF
    obtain ⟨p1, p2, p3, p4⟩ := hp
    obtain ⟨hq1, hq2⟩ := hq q (List.mem_cons_self ..)
    have hR0 := hR
    obtain ⟨hd, ⟨-, -, -, -, -, -, -, -, -, -, -, n13, -, -, n16, -⟩, -, ⟨-, -, -, -, -, -, -, -, -, -, -, g13, s1, s2, s4, s5, -⟩, -⟩ := hR
    have e0 : fX1_resolveAll_45 N r10 (F + 1) 2 (d + 12) (zN k) (zN c) m = if q.1 = 1 ∨ q.1 = 2 then (xca (fX1_resolveCode N 2 (zN c) m) fun v2 m1 => if (v2 : Int32) = zN 0 then (some (zN 0, m1)) else (fX1_resolveAll_45 N r10 F 2 (d + 12) (zN k) (zN (c + 1)) m1)) else (fX1_resolveAll_45 N r10 F 2 (d + 12) (zN k) (zN (c + 1)) m) := by
      rw [fX1_resolveAll_45, zv, zgr s5, zald (by omega) (by omega), h16]
      simp (disch := omega) only [zN_le]
      rw [if_neg (show ¬ e ≤ c by omega), zgr s1, zald (by omega) (by omega), p1]
      unfold fX1_resolveAll_75 fX1_resolveAll_85
      simp (disch := omega) only [zN_lit, zN_eq, zgr s1, zald, p1, zv, zN_add]
      by_cases r1 : q.1 = 1
      · rw [if_pos r1, if_pos (Or.inl r1)]
      · rw [if_neg r1]
        by_cases r2 : q.1 = 2
        · rw [if_pos r2, if_pos (Or.inr r2)]
        · rw [if_neg r2, if_neg (by omega)]
    rw [e0]
    by_cases hk12 : q.1 = 1 ∨ q.1 = 2
    · rw [if_pos hk12]
      obtain ⟨t1, t2⟩ := c_rc hR0 hQ hW hV (c := c) (q := q) (by omega) hk12 (hq2 hk12) p1 p2 p3
      by_cases hb : qbc Q q
      · refine Or.inl ⟨[], q, l, si (si m 2 12 (zN 5)) 2 13 (zN q.2.2), rfl, fun q' h => by simp at h, hb, by rw [t1 hb, zca, if_pos rfl], by rw [gi_ne (by omega), gi_si], gi_si _ _ _ _, ⟨fun z j r1 r2 r3 => by rw [gi_ne (by omega), gi_ne (by omega)], fun _ _ => rfl, fun _ _ => rfl⟩⟩
      · obtain ⟨m1, u1, u2, u3, u4, u5, u6⟩ := t2 hb
        rw [u1, zca, if_neg (by rw [zN10]; exact id)]
        have hVm : cV d c 300 m m1 := ⟨fun z j r1 r2 r3 => u4 z j (by omega), u5, u6⟩
        rcases ih (c + 1) F m1 (by omega) (cR_g hR0 u5) (cQ_V hd hVm hQ) (by omega) (by rw [u4 _ _ (by omega)]; exact h16) (pcod_fr _ _ (fun z j r1 r2 r3 => u4 _ _ (by omega)) p4) (fun q' h' => hq q' (List.mem_cons_of_mem _ h')) with ⟨l1, q3, l2, m2, v1, v2, v3, v4, v5, v6, v7⟩ | ⟨v1, m2, v2, v3, v4, v5, v6⟩
        · refine Or.inl ⟨q :: l1, q3, l2, m2, by rw [v1]; rfl, fun q' h' => ?_, v3, v4, v5, v6, cV_tr hVm v7 (by omega) (Nat.le_refl _)⟩
          rcases List.mem_cons.1 h' with r | r
          · rw [r]; exact hb
          · exact v2 q' r
        · refine Or.inr ⟨fun q' h' => ?_, m2, v2, ⟨by rw [v4 _ _ (by omega)]; exact u2, by rw [v4 _ _ (by omega)]; exact u3, v3⟩, fun z j r => by rw [v4 z j (by omega), u4 z j (by omega)], fun z j => by rw [v5, u5], fun z j => by rw [v6, u6]⟩
          rcases List.mem_cons.1 h' with r | r
          · rw [r]; exact hb
          · exact v1 q' r
    · rw [if_neg hk12]
      have hb : ¬ qbc Q q := fun r => hk12 r.1
      have erc : qrc Q q = (q.1, q.2.1) := by unfold qrc; rw [if_neg hk12]
      rcases ih (c + 1) F m (by omega) hR0 hQ (by omega) h16 p4 (fun q' h' => hq q' (List.mem_cons_of_mem _ h')) with ⟨l1, q3, l2, m2, v1, v2, v3, v4, v5, v6, v7⟩ | ⟨v1, m2, v2, v3, v4, v5, v6⟩
      · refine Or.inl ⟨q :: l1, q3, l2, m2, by rw [v1]; rfl, fun q' h' => ?_, v3, v4, v5, v6, cV_tr (cV_rf d c 300 m) v7 (by omega) (Nat.le_refl _)⟩
        rcases List.mem_cons.1 h' with r | r
        · rw [r]; exact hb
        · exact v2 q' r
      · refine Or.inr ⟨fun q' h' => ?_, m2, v2, ⟨by rw [v4 _ _ (by omega), erc]; exact p1, by rw [v4 _ _ (by omega), erc]; exact p2, v3⟩, fun z j r => v4 z j (by omega), v5, v6⟩
        rcases List.mem_cons.1 h' with r | r
        · rw [r]; exact hb
        · exact v1 q' r
theorem pso_lb : ∀ (l : List pK) {lo hi : Nat}, pso lo l hi → ∀ q ∈ l, q.1 = 1 ∨ q.1 = 2 → lo ≤ q.2.2 ∧ q.2.2 < hi
  | [], _, _, _, q, h, _ => by simp at h
  | q0 :: l, lo, hi, hp, q, h, hk => by
    have hle := pso_le l hp.2
    rcases List.mem_cons.1 h with r | r
    · rw [r] at hk ⊢
      rw [if_pos hk] at hle
      exact ⟨hp.1 hk, by omega⟩
    · have := pso_lb l hp.2 q r hk
      by_cases e : q0.1 = 1 ∨ q0.1 = 2
      · rw [if_pos e] at this
        have := hp.1 e
        omega
      · rw [if_neg e] at this; exact this
theorem pso_sp : ∀ (l1 : List pK) (q : pK) (l2 : List pK) {lo hi : Nat}, pso lo (l1 ++ q :: l2) hi → q.1 = 1 ∨ q.1 = 2 → ∀ q' ∈ l2, q'.1 = 1 ∨ q'.1 = 2 → q.2.2 < q'.2.2
  | [], q, l2, lo, hi, h, hq, q', h', hk => by
    have h2 := h.2
    rw [if_pos hq] at h2
    have := (pso_lb l2 h2 q' h' hk).1
    omega
  | _ :: l1, q, l2, lo, hi, h, hq, q', h', hk => pso_sp l1 q l2 h.2 hq q' h' hk
theorem psD_lb : ∀ (L : List pD) {lo hi : Nat}, psD lo L hi → (∀ D ∈ L, ∀ t, D.2 = some t → lo ≤ t.2 ∧ t.2 ≤ hi) ∧ (∀ q ∈ pcs L, q.1 = 1 ∨ q.1 = 2 → lo ≤ q.2.2 ∧ q.2.2 ≤ hi) ∧ lo ≤ hi
  | [], lo, hi, h => ⟨fun D hD => by simp at hD, fun q hq => by simp [pcs] at hq, h⟩
  | D0 :: L, lo, hi, h => by
    obtain ⟨h1, mi, h2, h3, h4⟩ := h
    obtain ⟨i1, i2, i3⟩ := psD_lb L h4
    have hmi : lo ≤ mi ∧ (∀ q ∈ D0.1, q.1 = 1 ∨ q.1 = 2 → lo ≤ q.2.2 ∧ q.2.2 < mi) ∧ ∀ t, D0.2 = some t → t.2 ≤ mi := by
      cases hD : D0.2 with
      | none => exact ⟨pso_le _ (h2 hD), fun q hq hk => pso_lb _ (h2 hD) q hq hk, fun t e => by simp at e⟩
      | some t =>
        have := pso_le _ (h3 t hD)
        have h1' := h1 t hD
        exact ⟨by omega, fun q hq hk => by have := pso_lb _ (h3 t hD) q hq hk; omega, fun t' e => by
          have e' : t = t' := by simpa using e
          rw [← e']; omega⟩
    obtain ⟨g1, g2, g3⟩ := hmi
    refine ⟨fun D hD t ht => ?_, fun q hq hk => ?_, by omega⟩
    · rcases List.mem_cons.1 hD with r | r
      · rw [r] at ht
        have := h1 t ht
        have := g3 t ht
        omega
      · have := i1 D r t ht
        omega
    · have hq' : q ∈ D0.1 ++ pcs L := hq
      rcases List.mem_append.1 hq' with r | r
      · have := g2 q r hk
        omega
      · have := i2 q r hk
        omega
/-- deeds with names looked up -/
def zdS (m : XM) (d : Nat) (Q : pQ) : Nat → Nat → List pD → Prop
  | _, _, [] => True
  | k, f, D :: l => gi m (d + 15) k = zN f ∧ gi m (d + 16) k = zN (f + D.1.length) ∧ zcod m d f (D.1.map (qrc Q)) ∧ gi m (d + 17) k = zopt (qrt Q D.2) ∧ zdS m d Q (k + 1) (f + D.1.length) l
theorem c_alls (hW : qW Q) (hV : qV Q) {M : Nat} (hM : M ≤ 300) : ∀ (L : List pD) (k f lo hi F : Nat) (m : XM), L.length < F → cR N d m → cQ m d Q → gi m (d + 12) 3 = zN M → k + L.length = M → pds m d k f L → f + plen L ≤ 600 → psD lo L hi → (∀ D ∈ L, ∀ q ∈ D.1, q.1 < 7 ∧ (q.1 = 1 ∨ q.1 = 2 → q.2.1 < 182)) → (∀ D ∈ L, ∀ t, D.2 = some t → t.1 < 182) →
    (∃ p m', fX1_resolveAll_10 N F 2 (d + 12) (zN k) m = some (zN 0, m') ∧ gi m' 2 12 = zN 5 ∧ gi m' 2 13 = zN p ∧ qMi Q L p ∧ cV d f k m m')
    ∨ ((∀ p, ¬ qBp Q L p) ∧ ∃ m', fX1_resolveAll_10 N F 2 (d + 12) (zN k) m = some (zN 1, m') ∧ zdS m' d Q k f L ∧ (∀ z j, ¬ ((z = d + 13 ∨ z = d + 14) ∧ f ≤ j) → ¬ (z = d + 17 ∧ k ≤ j) → gi m' z j = gi m z j) ∧ (∀ z j, gr m' z j = gr m z j) ∧ ∀ z j, gl m' z j = gl m z j) := by
  have hX := zXF
  intro L
  induction L with
  | nil =>
    intro k f lo hi F m hF hR hQ h3 hkM hp hf hs hq ht
    obtain ⟨F, rfl⟩ : ∃ g, F = g + 1 := ⟨F - 1, by omega⟩
    have hkM' : k = M := by simpa using hkM
    refine Or.inr ⟨fun p h => ?_, m, ?_, trivial, fun _ _ _ _ => rfl, fun _ _ => rfl, fun _ _ => rfl⟩
    · rcases h with ⟨D, hD, -⟩ | ⟨q, hq, -⟩
      · simp at hD
      · simp [pcs] at hq
    · rw [fX1_resolveAll_10]
      simp (disch := omega) only [zv, h3, zN_le, zN_lit]
      rw [if_pos (show M ≤ k by omega)]
  | cons D L ih =>
    intro k f lo hi F m hF hR hQ h3 hkM hp hf hs hq ht
    obtain ⟨F, rfl⟩ : ∃ g, F = g + 1 := ⟨F - 1, by omega⟩
    have hkM' : k + (L.length + 1) = M := hkM
    have hF' : L.length + 1 < F + 1 := hF
    have hf' : f + (D.1.length + plen L) ≤ 600 := hf
    obtain ⟨p1, p2, p3, p4, p5⟩ := hp
    obtain ⟨t1, mi, t2, t3, t4⟩ := hs
    obtain ⟨lb1, lb2, lb3⟩ := psD_lb L t4
    have hR0 := hR
    obtain ⟨hd, ⟨-, -, -, -, -, -, -, -, -, -, -, n13, -, n15, n16, n17⟩, -, ⟨-, -, -, -, -, -, -, -, -, -, -, g13, s1, s2, s4, s5, s6⟩, -⟩ := hR
    have hcod : ∀ (m1 : XM), cR N d m1 → cQ m1 d Q → (∀ z j, ¬ (z = d + 17 ∧ j = k) → gi m1 z j = gi m z j) → gi m1 (d + 17) k = zopt (qrt Q D.2) → (∀ z j, gl m1 z j = gl m z j) → (∀ z j, gr m1 z j = gr m z j) → (∀ t, D.2 = some t → ¬ qbt Q t) →
        (∃ p m', fX1_resolveAll_38 N (fun q0 q1 x2 m0 => fX1_resolveAll_10 N F q0 q1 x2 m0) 2 (d + 12) (zN k) m1 = some (zN 0, m') ∧ gi m' 2 12 = zN 5 ∧ gi m' 2 13 = zN p ∧ qMi Q (D :: L) p ∧ cV d f k m m')
        ∨ ((∀ p, ¬ qBp Q (D :: L) p) ∧ ∃ m', fX1_resolveAll_38 N (fun q0 q1 x2 m0 => fX1_resolveAll_10 N F q0 q1 x2 m0) 2 (d + 12) (zN k) m1 = some (zN 1, m') ∧ zdS m' d Q k f (D :: L) ∧ (∀ z j, ¬ ((z = d + 13 ∨ z = d + 14) ∧ f ≤ j) → ¬ (z = d + 17 ∧ k ≤ j) → gi m' z j = gi m z j) ∧ (∀ z j, gr m' z j = gr m z j) ∧ ∀ z j, gl m' z j = gl m z j) := fun m1 hR1 hQ1 hm1 h17 hl1 hg1 hgt => by
      have e38 : fX1_resolveAll_38 N (fun q0 q1 x2 m0 => fX1_resolveAll_10 N F q0 q1 x2 m0) 2 (d + 12) (zN k) m1 = fX1_resolveAll_45 N (fun q0 q1 x2 m0 => fX1_resolveAll_10 N F q0 q1 x2 m0) XF 2 (d + 12) (zN k) (zN f) m1 := by
        unfold fX1_resolveAll_38
        rw [zgr (u := d + 15) (by rw [hg1]; exact s4), zald (by omega) (by omega), hm1 _ _ (by omega), p1]
      have hV1 : cV d f k m m1 := ⟨fun z j r1 r2 r3 => hm1 z j (by omega), hg1, hl1⟩
      rw [e38]
      rcases c_cods hW hV (e := f + D.1.length) (k := k) (by omega) (by omega) (fun q0 q1 x2 m0 => fX1_resolveAll_10 N F q0 q1 x2 m0) D.1 f XF m1 (by omega) hR1 hQ1 rfl (by rw [hm1 _ _ (by omega)]; exact p2) (pcod_fr _ _ (fun z j r1 r2 r3 => hm1 _ _ (by omega)) p3) (hq D (List.mem_cons_self ..)) with ⟨l1, q, l2, m2, v1, v2, v3, v4, v5, v6, v7⟩ | ⟨v1, m2, v2, v3, v4, v5, v6⟩
      · refine Or.inl ⟨q.2.2, m2, v4, v5, v6, ⟨Or.inr ⟨q, ?_, v3, rfl⟩, fun p' hp' => ?_⟩, cV_tr hV1 v7 (Nat.le_refl _) (by omega)⟩
        · show q ∈ D.1 ++ pcs L
          rw [v1]; simp
        · have hso : ∃ lo', pso lo' D.1 mi := by
            cases hD : D.2 with
            | none => exact ⟨lo, t2 hD⟩
            | some t => exact ⟨t.2 + 1, t3 t hD⟩
          obtain ⟨lo', hso⟩ := hso
          have hqb := pso_lb _ hso q (by rw [v1]; simp) v3.1
          rcases hp' with ⟨E, hE, t, hEt, hbt, he⟩ | ⟨q', hq', hbc, he⟩
          · rcases List.mem_cons.1 hE with r | r
            · rw [r] at hEt
              exact absurd hbt (hgt t hEt)
            · have := lb1 E r t hEt
              omega
          · have hq'' : q' ∈ D.1 ++ pcs L := hq'
            rcases List.mem_append.1 hq'' with r | r
            · rw [v1] at r hso
              rcases List.mem_append.1 r with r2 | r2
              · exact absurd hbc (v2 q' r2)
              · rcases List.mem_cons.1 r2 with r3 | r3
                · rw [← he, r3]; exact Nat.le_refl _
                · have := pso_sp l1 q l2 hso v3.1 q' r3 hbc.1
                  omega
            · have := lb2 q' r hbc.1
              omega
      · rw [v2]
        have hV2 : cV d f k m m2 := ⟨fun z j r1 r2 r3 => by rw [v4 z j (by omega), hm1 z j (by omega)], fun z j => by rw [v5, hg1], fun z j => by rw [v6, hl1]⟩
        rcases ih (k + 1) (f + D.1.length) mi hi F m2 (by omega) (cR_g hR0 hV2.2.1) (cQ_V hd hV2 hQ) (by rw [v4 _ _ (by omega), hm1 _ _ (by omega)]; exact h3) (by omega) (pds_fr _ _ _ (fun z j r1 r2 r3 => by rw [v4 _ _ (by omega), hm1 _ _ (by omega)]) (fun z j r1 r2 r3 => by rw [v4 _ _ (by omega), hm1 _ _ (by omega)]) p5) (by omega) t4 (fun E hE => hq E (List.mem_cons_of_mem _ hE)) (fun E hE => ht E (List.mem_cons_of_mem _ hE)) with ⟨p, m3, w1, w2, w3, w4, w5⟩ | ⟨w1, m3, w2, w3, w4, w5, w6⟩
        · refine Or.inl ⟨p, m3, w1, w2, w3, ⟨?_, fun p' hp' => ?_⟩, cV_tr hV2 w5 (by omega) (by omega)⟩
          · rcases w4.1 with ⟨E, hE, t, r⟩ | ⟨q, hq', r⟩
            · exact Or.inl ⟨E, List.mem_cons_of_mem _ hE, t, r⟩
            · exact Or.inr ⟨q, List.mem_append_right _ hq', r⟩
          · rcases hp' with ⟨E, hE, t, hEt, hbt, he⟩ | ⟨q', hq', hbc, he⟩
            · rcases List.mem_cons.1 hE with r | r
              · rw [r] at hEt
                exact absurd hbt (hgt t hEt)
              · exact w4.2 p' (Or.inl ⟨E, r, t, hEt, hbt, he⟩)
            · have hq'' : q' ∈ D.1 ++ pcs L := hq'
              rcases List.mem_append.1 hq'' with r | r
              · exact absurd hbc (v1 q' r)
              · exact w4.2 p' (Or.inr ⟨q', r, hbc, he⟩)
        · refine Or.inr ⟨fun p' hp' => ?_, m3, w2, ⟨?_, ?_, ?_, ?_, w3⟩, fun z j r1 r2 => by rw [w4 z j (by omega) (by omega), v4 z j (by omega), hm1 z j (by omega)], fun z j => by rw [w5, hV2.2.1], fun z j => by rw [w6, hV2.2.2]⟩
          · rcases hp' with ⟨E, hE, t, hEt, hbt, he⟩ | ⟨q', hq', hbc, he⟩
            · rcases List.mem_cons.1 hE with r | r
              · rw [r] at hEt
                exact hgt t hEt hbt
              · exact w1 p' (Or.inl ⟨E, r, t, hEt, hbt, he⟩)
            · have hq'' : q' ∈ D.1 ++ pcs L := hq'
              rcases List.mem_append.1 hq'' with r | r
              · exact v1 q' r hbc
              · exact w1 p' (Or.inr ⟨q', r, hbc, he⟩)
          · rw [w4 _ _ (by omega) (by omega), v4 _ _ (by omega), hm1 _ _ (by omega)]; exact p1
          · rw [w4 _ _ (by omega) (by omega), v4 _ _ (by omega), hm1 _ _ (by omega)]; exact p2
          · have hzf : ∀ (l : List zCode) (a : Nat), a + l.length ≤ f + D.1.length → zcod m2 d a l → zcod m3 d a l := by
              intro l
              induction l with
              | nil => intro a _ _; trivial
              | cons x l ihl =>
                intro a ha hz
                have ha' : a + (l.length + 1) ≤ f + D.1.length := ha
                exact ⟨by rw [w4 _ _ (by omega) (by omega)]; exact hz.1, by rw [w4 _ _ (by omega) (by omega)]; exact hz.2.1, ihl (a + 1) (by omega) hz.2.2⟩
            exact hzf _ f (by rw [List.length_map]; exact Nat.le_refl _) v3
          · rw [w4 _ _ (by omega) (by omega), v4 _ _ (by omega)]; exact h17
    have e10 : fX1_resolveAll_10 N (F + 1) 2 (d + 12) (zN k) m = (if gi m (d + 17) k = zM then (fX1_resolveAll_38 N (fun q0 q1 x2 m0 => fX1_resolveAll_10 N F q0 q1 x2 m0) 2 (d + 12) (zN k) m) else (xca (fX1_resolveTarget N 2 (zN k) m) fun v5 m4 => if (v5 : Int32) = zN 0 then (some (zN 0, m4)) else (fX1_resolveAll_38 N (fun q0 q1 x2 m0 => fX1_resolveAll_10 N F q0 q1 x2 m0) 2 (d + 12) (zN k) m4))) := by
      rw [fX1_resolveAll_10]
      simp (disch := omega) only [zv, h3, zN_le, zN_lit]
      rw [if_neg (show ¬ M ≤ k by omega), zgr s6, zald (by omega) (by omega)]
      simp only [zneg]
    rw [e10]
    cases hD : D.2 with
    | none =>
      rw [hD] at p4
      have p4' : gi m (d + 17) k = zM := p4
      rw [if_pos p4']
      exact hcod m hR0 hQ (fun _ _ _ => rfl) (by rw [p4', hD]; rfl) (fun _ _ => rfl) (fun _ _ => rfl) (fun t e => by rw [hD] at e; simp at e)
    | some t =>
      rw [hD] at p4
      have p4' : gi m (d + 17) k = zN t.1 ∧ gi m 23 k = zN t.2 := p4
      have ht182 := ht D (List.mem_cons_self ..) t hD
      rw [if_neg (by rw [p4'.1, zN_m (by omega)]; exact id)]
      obtain ⟨u1, u2⟩ := c_rt hR0 hQ hW (k := k) (t := t) (by omega) ht182 p4'.1 p4'.2
      by_cases hb : qbt Q t
      · refine Or.inl ⟨t.2, si (si m 2 12 (zN 5)) 2 13 (zN t.2), by rw [u1 hb, zca, if_pos rfl], by rw [gi_ne (by omega), gi_si], gi_si _ _ _ _, ⟨Or.inl ⟨D, List.mem_cons_self .., t, hD, hb, rfl⟩, fun p' hp' => ?_⟩, ⟨fun z j r1 r2 r3 => by rw [gi_ne (by omega), gi_ne (by omega)], fun _ _ => rfl, fun _ _ => rfl⟩⟩
        have hso := t3 t hD
        have hle := pso_le _ hso
        rcases hp' with ⟨E, hE, t', hEt, hbt, he⟩ | ⟨q', hq', hbc, he⟩
        · rcases List.mem_cons.1 hE with r | r
          · rw [r, hD] at hEt
            have e' : t = t' := by simpa using hEt
            rw [← he, e']; exact Nat.le_refl _
          · have := lb1 E r t' hEt
            omega
        · have hq'' : q' ∈ D.1 ++ pcs L := hq'
          rcases List.mem_append.1 hq'' with r | r
          · have := pso_lb _ hso q' r hbc.1
            omega
          · have := lb2 q' r hbc.1
            omega
      · obtain ⟨x, x1, x2, x3⟩ := u2 hb
        rw [x3, zca, if_neg (by rw [zN10]; exact id)]
        have hVx : cV d f k m (si m (d + 17) k (zN x)) := ⟨fun z j r1 r2 r3 => gi_ne (by omega), fun _ _ => rfl, fun _ _ => rfl⟩
        exact hcod (si m (d + 17) k (zN x)) (cR_g hR0 (fun _ _ => rfl)) (cQ_V hd hVx hQ) (fun z j r => gi_ne (by omega)) (by
          rw [gi_si, hD]
          show zN x = zN ((qlk Q t.1).getD 0)
          rw [x1]; rfl) (fun _ _ => rfl) (fun _ _ => rfl) (fun t' e => by
          rw [hD] at e
          have e' : t = t' := by simpa using e
          rw [← e']; exact hb)
end SD
