/-! ===== t: both memories show the program ===== -/
section SI
variable {K K' : Nat → Int32} {P : zP}
theorem yleaf_B (h : ∀ s, s < 3820 → K' s = K s) {t : Nat} {q : zCode} (ht : t < 400) (g : yleaf K P t q) : yleaf K' P t q := by
  unfold yleaf at g ⊢
  rw [h (1410 + 6 * t + 1) (by omega), h (1410 + 6 * t + 2) (by omega), h (1410 + 6 * t + 3) (by omega)]
  exact g
theorem yCh_B (h : ∀ s, s < 3820 → K' s = K s) {T T' : Nat → List zCode → Prop} (hT : ∀ t l, T t l → t < 400 ∧ T' t l) : ∀ (ts : List Nat) (p : Nat) (l : List zCode), p < 400 → yCh K T ts p l → yCh K' T' ts p l
  | [], p, l, hp, g => ⟨(h _ (by omega)).trans g.1, g.2⟩
  | t :: ts, p, l, hp, g => by
    obtain ⟨q1, q2, lt, o, l', q3, q4, q5, q6, q7, q8⟩ := g
    obtain ⟨r1, r2⟩ := hT t lt q3
    exact ⟨q1, (h _ (by omega)).trans q2, lt, o, l', r2, q4, q5, (h _ (by omega)).trans q6, q7, yCh_B h hT ts t l' r1 q8⟩
theorem yTm_lt : ∀ {n t : Nat} {l : List zCode}, yTm K P n t l → t < 400
  | 0, _, _, h => h.elim
  | _ + 1, _, _, h => h.1
theorem yTm_B (h : ∀ s, s < 3820 → K' s = K s) : ∀ (n t : Nat) (l : List zCode), yTm K P n t l → yTm K' P n t l
  | 0, _, _, g => g
  | n + 1, t, l, g => by
    obtain ⟨g1, g2⟩ := g
    refine ⟨g1, ?_⟩
    rcases g2 with ⟨q, q1, q2⟩ | ⟨q1, f, q2, l0, ts, lr, q4, q5, q6, q7⟩
    · exact Or.inl ⟨q, q1, yleaf_B h g1 q2⟩
    · exact Or.inr ⟨(h _ (by omega)).trans q1, f, (h _ (by omega)).trans q2, l0, ts, lr, yTm_B h n f l0 q4, q5, yCh_B h (fun t' l' r => ⟨yTm_lt r, yTm_B h n t' l' r⟩) ts f lr (yTm_lt q4) q6, q7⟩
theorem ySum_B (h : ∀ s, s < 3820 → K' s = K s) {f : Nat} {l : List zCode} (g : ySum K P f l) : ySum K' P f l := by
  obtain ⟨l0, ts, lr, q4, q5, q6, q7⟩ := g
  exact ⟨l0, ts, lr, yTm_B h 9 f l0 q4, q5, yCh_B h (fun t' l' r => ⟨yTm_lt r, yTm_B h 9 t' l' r⟩) ts f lr (yTm_lt q4) q6, q7⟩
theorem yact_B (h : ∀ s, s < 3820 → K' s = K s) {a : Nat} {d : zDeed} (g : yact K P a d) : yact K' P a d := by
  obtain ⟨g1, ⟨f, g2, g3⟩, g4, g5⟩ := g
  exact ⟨g1, ⟨f, (h _ (by omega)).trans g2, ySum_B h g3⟩, fun e => (h _ (by omega)).trans (g4 e), fun x e => ⟨(h _ (by omega)).trans (g5 x e).1, (h _ (by omega)).trans (g5 x e).2⟩⟩
theorem yacts_B (h : ∀ s, s < 3820 → K' s = K s) : ∀ {l : List zDeed} {a : Nat}, yacts K P a l → yacts K' P a l
  | [], _, _ => trivial
  | _ :: _, _, g => ⟨yact_B h g.1, yacts_B h g.2⟩
theorem yMem_B (h : ∀ s, s < 3820 → K' s = K s) {x p : Nat} (hp : p < 3000) (g : yMem K P x p) : yMem K' P x p := by
  obtain ⟨g1, g2, g3, g4, g5, g6⟩ := g
  refine ⟨(h _ (by omega)).trans g1, fun r => (h _ (by omega)).trans (g2 r), fun r => ⟨(h _ (by omega)).trans (g3 r).1, (g3 r).2⟩, fun r => ⟨fun e => (h _ (by omega)).trans ((g4 r).1 e), fun d e => ?_⟩, fun r => ?_, fun r => ?_⟩
  · obtain ⟨f, k1, k2⟩ := (g4 r).2 d e
    exact ⟨f, (h _ (by omega)).trans k1, ySum_B h k2⟩
  · obtain ⟨a, d, k1, k2, k3⟩ := g5 r
    exact ⟨a, d, (h _ (by omega)).trans k1, k2, yact_B h k3⟩
  · obtain ⟨f, a, l, g, k1, k2, k3, k4, k5, k6, k7⟩ := g6 r
    exact ⟨f, a, l, g, (h _ (by omega)).trans k1, ySum_B h k2, (h _ (by omega)).trans k3, (h _ (by omega)).trans k4, k5, yacts_B h k6, k7⟩
end SI
section SJ
variable {Q : pQ} {DL : List pD} {nt na : Nat} {m w w2 w3 : XM} {d : Nat}
theorem q_acts (hG : qG Q DL) (hI : qIv w Q DL nt na w2) (hna : na ≤ 150) (hnt : nt ≤ 300) : ∀ (s k a : Nat), a + s ≤ na → (∀ j, j < s → ∃ E, DL[k + j]? = some E ∧ pact (gi w 89) nt (a + j) E) → yacts (gi w2 89) (qP Q DL) a (qFs Q DL k s)
  | 0, _, _, _, _ => trivial
  | s + 1, k, a, ha, h => by
    obtain ⟨E, h1, h2⟩ := h 0 (by omega)
    have h1' : DL[k]? = some E := h1
    have h2' : pact (gi w 89) nt a E := h2
    refine ⟨?_, q_acts hG hI hna hnt s (k + 1) (a + 1) (by omega) (fun j hj => ?_)⟩
    · rw [qE_s h1']; exact q_act hG hI hna hnt (by omega) (p_mem h1') h2'
    · obtain ⟨E', e1, e2⟩ := h (j + 1) (by omega)
      exact ⟨E', by rw [show k + 1 + j = k + (j + 1) by omega]; exact e1, by rw [show a + 1 + j = a + (j + 1) by omega]; exact e2⟩
theorem q_ini {x : Nat} (h : qknd Q x ≠ 4) : zini (qP Q DL) x = (qded Q x).map (qE Q DL) := if_neg h
theorem q_fun {x : Nat} (h : qknd Q x = 4) : zfun (qP Q DL) x = qFs Q DL ((qded Q x).getD 0) ((qnum Q x).getD 0 + 1) := if_pos h
theorem q_mem (hG : qG Q DL) (hI : qIv w Q DL nt na w2) (hna : na ≤ 150) (hnt : nt ≤ 300) {x : Nat} (hx : qok Q x) (h : pMem (gi w 89) nt na Q DL x (110 + 5 * qid Q x)) : yMem (gi w2 89) (qP Q DL) x (110 + 5 * qid Q x) := by
  have hid := (qid_lt hG.1 hx).2.1
  have hs : ∀ o, o < 5 → gi w2 89 (110 + 5 * qid Q x + o) = gi w 89 (110 + 5 * qid Q x + o) := fun o ho => hI.2.1 _ (fun t' _ => by omega) (fun a' _ => by omega)
  have hs0 : gi w2 89 (110 + 5 * qid Q x) = gi w 89 (110 + 5 * qid Q x) := hI.2.1 _ (fun t' _ => by omega) (fun a' _ => by omega)
  obtain ⟨p1, p2, p3, p4, p5, p6⟩ := h
  refine ⟨hs0.trans p1, fun r => (hs 1 (by omega)).trans (p2 r), fun r => ?_, fun r => ⟨fun e => ?_, fun e he => ?_⟩, fun r => ?_, fun r => ?_⟩
  · obtain ⟨v, v1, v2, v3, v4⟩ := p3 r
    have r' : qknd Q x = 0 := r
    refine ⟨(hs 2 (by omega)).trans ?_, ?_, ?_⟩
    · show _ = zopt (qnum Q x); rw [v1]; exact v2
    · show (qnum Q x).isSome; rw [v1]; rfl
    · rw [q_ini (by omega), v3]; rfl
  · have r' : qknd Q x = 1 := r
    rw [q_ini (by omega)] at e
    have e' : qded Q x = none := by
      cases h : qded Q x with
      | none => rfl
      | some k => rw [h] at e; simp at e
    exact (hs 2 (by omega)).trans ((p4 r).2.1 e')
  · have r' : qknd Q x = 1 := r
    rw [q_ini (by omega)] at he
    cases h : qded Q x with
    | none => rw [h] at he; simp at he
    | some k =>
      rw [h] at he
      have he' : qE Q DL k = e := by simpa using he
      obtain ⟨D, f, s1, s2, s3, s4⟩ := (p4 r).2.2 k h
      rw [qE_s s1] at he'
      rw [← he']
      exact ⟨f, (hs 2 (by omega)).trans s3, q_sum hG hI hna hnt (p_mem s1) s4⟩
  · have r' : qknd Q x = 2 ∨ qknd Q x = 3 := r
    obtain ⟨-, k, D, a, s1, s2, s3, s4, s5, s6⟩ := p5 r
    refine ⟨a, qrd Q D, (hs 2 (by omega)).trans s3, ?_, q_act hG hI hna hnt s4 (p_mem s2) s5⟩
    rw [q_ini (by omega), s1]
    show some (qE Q DL k) = _
    rw [qE_s s2]
  · have r' : qknd Q x = 4 := r
    obtain ⟨k, s, f, a, D, s1, s2, s3, s4, s5, s6, s7, s8, s9, s10, s11⟩ := p6 r
    refine ⟨f, a, qFs Q DL k s, (qrd Q D).1, (hs 2 (by omega)).trans s6, q_sum hG hI hna hnt (p_mem s4) s7, ?_, (hs 4 (by omega)).trans s9, by rw [qFs_len]; exact s3, q_acts hG hI hna hnt s k a s10 (fun j hj => ?_), ?_⟩
    · rw [qFs_len]; exact (hs 3 (by omega)).trans s8
    · obtain ⟨E, e1, e2, e3⟩ := s11 j hj
      exact ⟨E, e1, e3⟩
    · rw [q_fun r', s1, s2]
      show qFs Q DL k (s + 1) = _
      rw [qFs_la, qE_s s4]
      congr 2
      show ((qrd Q D).1, qrt Q D.2) = _
      rw [s5]; rfl
theorem q_yMP (hG : qG Q DL) (hQ : rQ w Q DL nt na) (hI : qIv w Q DL nt na w2) (hna : na ≤ 150) (hnt : nt ≤ 300) (h88 : ∀ k, k < 3820 → gi w3 88 k = gi w2 89 k) (h90 : ∀ k, k < 84 → gi w3 90 k = zN 0) : yMP w3 (qP Q DL) := by
  have hW := hG.1
  have hn := hW.1
  have hs : ∀ k, k < 530 ∨ 3810 ≤ k → gi w2 89 k = gi w 89 k := fun k hk => hI.2.1 _ (fun t' _ => by omega) (fun a' _ => by omega)
  have hb0 : ∀ u, zbase (qP Q DL) u = qbs (qcnt Q) u := fun u => by
    induction u with
    | zero => rfl
    | succ u ih => show zbase (qP Q DL) u + qcnt Q u = _; rw [ih]; rfl
  obtain ⟨q1, q2, q3, q4, q5, q6⟩ := hQ
  refine ⟨by rw [h88 _ (by omega), hs _ (by omega)]; exact q1, by rw [h88 _ (by omega), hs _ (by omega), hb0]; exact q2, ?_, fun u hu => ?_, fun x hx => ⟨?_, ?_⟩, fun k e hk => ?_⟩
  · rw [h88 _ (by omega), hs _ (by omega), q3]
    show _ = zN ((qstp Q).map (qE Q DL)).length
    rw [List.length_map]
  · have hu' : u < qn Q := hu
    have hc := (hW.2.1 u hu).1
    obtain ⟨r1, r2, r3, r4⟩ := q4 u hu
    exact ⟨by rw [h88 _ (by omega), hs _ (by omega)]; exact r1, by rw [h88 _ (by omega), hs _ (by omega)]; exact r2, by rw [h88 _ (by omega), hs _ (by omega)]; exact r3, fun i hi => by
      have hi' : i < qcnt Q u := hi
      rw [h88 _ (by omega), hs _ (by omega), hb0]; exact r4 i hi⟩
  · have hid := (qid_lt hW hx).2.1
    rw [qb_mid]
    exact yMem_B h88 (by omega) (q_mem hG hI hna hnt hx (q5 x hx))
  · have hid := (qid_lt hW hx).2.1
    rw [qb_mid, h90 _ hid]
    rfl
  · have hk' : ((qstp Q).map (qE Q DL))[k]? = some e := hk
    rw [List.getElem?_map] at hk'
    cases hj : (qstp Q)[k]? with
    | none => rw [hj] at hk'; simp at hk'
    | some j =>
      rw [hj] at hk'
      have he : qE Q DL j = e := by simpa using hk'
      obtain ⟨hl, -⟩ := List.getElem?_eq_some_iff.1 hj
      have h10 := hW.2.2.2.2.2.2
      obtain ⟨a, D, s1, s2, s3, s4⟩ := q6 k j hj
      rw [← he, qE_s s3]
      exact ⟨a, by rw [h88 _ (by omega), hs _ (by omega)]; exact s1, yact_B h88 (q_act hG hI hna hnt s2 (p_mem s3) s4)⟩
theorem zdS_get : ∀ (L : List pD) (k f : Nat), zdS m d Q k f L → k + L.length ≤ 300 → f + plen L ≤ 600 → ∀ j D, L[j]? = some D → zdat m d (k + j) (qrd Q D)
  | [], _, _, _, _, _, j, D, h => by simp at h
  | E :: L, k, f, hz, hk, hf, j, D, h => by
    have hk' : k + (L.length + 1) ≤ 300 := hk
    have hf' : f + (E.1.length + plen L) ≤ 600 := hf
    cases j with
    | zero =>
      have e : E = D := by simpa using h
      rw [← e]
      refine ⟨by omega, f, hz.1, ?_, ?_, hz.2.2.1, hz.2.2.2.1⟩
      · show _ = zN (f + (E.1.map (qrc Q)).length)
        rw [List.length_map]; exact hz.2.1
      · show f + (E.1.map (qrc Q)).length ≤ 600
        rw [List.length_map]; omega
    | succ j =>
      have h' : L[j]? = some D := by simpa using h
      have := zdS_get L (k + 1) (f + E.1.length) hz.2.2.2.2 (by omega) (by omega) j D h'
      rw [show k + (j + 1) = k + 1 + j by omega]
      exact this
theorem q_dats (hz : zdS m d Q 0 0 DL) (hl : DL.length ≤ 300) (hp : plen DL ≤ 600) : ∀ (s k : Nat), (∀ j, j < s → ∃ E, DL[k + j]? = some E) → zdats m d k (qFs Q DL k s)
  | 0, _, _ => trivial
  | s + 1, k, h => by
    obtain ⟨E, h1⟩ := h 0 (by omega)
    have h1' : DL[k]? = some E := h1
    have := zdS_get DL 0 0 hz (by omega) (by omega) k E h1'
    rw [Nat.zero_add] at this
    refine ⟨by rw [qE_s h1']; exact this, q_dats hz hl hp s (k + 1) (fun j hj => ?_)⟩
    obtain ⟨E', e1⟩ := h (j + 1) (by omega)
    exact ⟨E', by rw [show k + 1 + j = k + (j + 1) by omega]; exact e1⟩
theorem q_jU (hG : qG Q DL) (hQ : rQ w Q DL nt na) (hc : cQ m d Q) (hz : zdS m d Q 0 0 DL) (hl : DL.length ≤ 300) (hp : plen DL ≤ 600) : jU m d (qP Q DL) := by
  have hW := hG.1
  have hn := hW.1
  obtain ⟨c1, c2, c3, c4, c5, c6, c7, c8⟩ := hc
  have hdat : ∀ k D, DL[k]? = some D → zdat m d k (qrd Q D) := fun k D h => by
    have := zdS_get DL 0 0 hz (by omega) (by omega) k D h
    rw [Nat.zero_add] at this
    exact this
  refine ⟨⟨c1, ?_, fun u hu => ⟨(c3 u hu).1, (c3 u hu).2, c4 u (by have hu' : u < qn Q := hu; omega)⟩, fun x hx => ?_, fun u i hu hi => ?_, fun x hx => ⟨fun hk => ?_, fun hk => ?_⟩, fun k e hk => ?_⟩, fun u a hu ha => ⟨fun x h1 h2 h3 => ?_, fun h => ?_⟩⟩
  · rw [c2]
    show _ = zN ((qstp Q).map (qE Q DL)).length
    rw [List.length_map]
  · obtain ⟨r1, r2, r3, r4, r5, r6⟩ := c5 x hx
    exact ⟨r1, r2, r3, r5⟩
  · have hu' : u < qn Q := hu
    have hi' : i < qcnt Q u := hi
    have hc12 := (hW.2.1 u hu).1
    exact (c5 (12 * u + i) ⟨by omega, by rw [show (12 * u + i) / 12 = u by omega]; omega⟩).2.2.2.2.2
  · have hk' : qknd Q x ≠ 4 := hk
    have r4 := (c5 x hx).2.2.2.1
    have pm := hQ.2.2.2.2.1 x hx
    rw [q_ini hk']
    refine ⟨fun e => ?_, fun e he => ?_⟩
    · have e' : qded Q x = none := by
        cases h : qded Q x with
        | none => rfl
        | some k => rw [h] at e; simp at e
      rw [r4, e']; rfl
    · cases h : qded Q x with
      | none => rw [h] at he; simp at he
      | some k =>
        rw [h] at he
        have he' : qE Q DL k = e := by simpa using he
        have hD : ∃ D, DL[k]? = some D := by
          have hk4 := (hW.2.2.2.2.2.1 x hx).1
          by_cases e0 : qknd Q x = 0
          · obtain ⟨v, v1, v2, v3, v4⟩ := pm.2.2.1 e0
            rw [v3] at h; simp at h
          · by_cases e1 : qknd Q x = 1
            · obtain ⟨D, f, s1, -⟩ := (pm.2.2.2.1 e1).2.2 k h
              exact ⟨D, s1⟩
            · obtain ⟨-, k', D, a, s1, s2, -⟩ := pm.2.2.2.2.1 (by omega)
              rw [h] at s1
              have : k = k' := by simpa using s1
              rw [this]; exact ⟨D, s2⟩
        obtain ⟨D, hD⟩ := hD
        rw [← he', qE_s hD]
        exact ⟨k, by rw [r4, h]; rfl, hdat k D hD⟩
  · have hk' : qknd Q x = 4 := hk
    have r4 := (c5 x hx).2.2.2.1
    obtain ⟨k, s, f, a, D, s1, s2, s3, s4, s5, s6, s7, s8, s9, s10, s11⟩ := (hQ.2.2.2.2.1 x hx).2.2.2.2.2 hk'
    refine ⟨k, by rw [r4, s1]; rfl, ?_, ?_⟩
    · rw [q_fun hk', s1, s2]
      show zdats m d k (qFs Q DL k (s + 1))
      refine q_dats hz hl hp (s + 1) k (fun j hj => ?_)
      by_cases e : j = s
      · exact ⟨D, by rw [e]; exact s4⟩
      · obtain ⟨E, e1, -⟩ := s11 j (by omega)
        exact ⟨E, e1⟩
    · rw [q_fun hk', s1, s2, qFs_len]
      show qnum Q x = _
      rw [s2]; rfl
  · have hk' : ((qstp Q).map (qE Q DL))[k]? = some e := hk
    rw [List.getElem?_map] at hk'
    cases hj : (qstp Q)[k]? with
    | none => rw [hj] at hk'; simp at hk'
    | some j =>
      rw [hj] at hk'
      have he : qE Q DL j = e := by simpa using hk'
      obtain ⟨a, D, s1, s2, s3, s4⟩ := hQ.2.2.2.2.2 k j hj
      rw [← he, qE_s s3]
      exact ⟨j, c8 k j hj, hdat j D s3⟩
  · have hu' : u < qn Q := hu
    rw [c6 u a (by omega) ha, (hW.2.2.2.2.1 u a x ha).2 ⟨h1.1, h2, h1.2, h3⟩]
    rfl
  · have hu' : u < qn Q := hu
    rw [c6 u a (by omega) ha]
    cases e : qnm Q u a with
    | none => rfl
    | some x =>
      obtain ⟨k1, k2, k3, k4⟩ := (hW.2.2.2.2.1 u a x ha).1 e
      exact absurd k4 (h x ⟨k1, k3⟩ k2)
theorem q_jW (hG : qG Q DL) (hQ : rQ w Q DL nt na) : jW (qP Q DL) := by
  have hW := hG.1
  obtain ⟨w1, w2, w3, w4, w5, w6, w7⟩ := id hW
  have hded : ∀ x, qok Q x → qknd Q x ≠ 4 → ∀ e, zini (qP Q DL) x = some e → ∃ k D, qded Q x = some k ∧ DL[k]? = some D ∧ e = qrd Q D ∧ (qknd Q x = 1 → D.2 = none) ∧ (qknd Q x = 2 → D.2 = none) := fun x hx hk e he => by
    rw [q_ini hk] at he
    have pm := hQ.2.2.2.2.1 x hx
    have hk4 := (w6 x hx).1
    cases h : qded Q x with
    | none => rw [h] at he; simp at he
    | some k =>
      rw [h] at he
      have he' : qE Q DL k = e := by simpa using he
      by_cases e0 : qknd Q x = 0
      · obtain ⟨v, v1, v2, v3, v4⟩ := pm.2.2.1 e0
        rw [v3] at h; simp at h
      · by_cases e1 : qknd Q x = 1
        · obtain ⟨D, f, s1, s2, -⟩ := (pm.2.2.2.1 e1).2.2 k h
          exact ⟨k, D, rfl, s1, by rw [← he', qE_s s1], fun _ => s2, fun r => by omega⟩
        · obtain ⟨-, k', D, a, s1, s2, s3, s4, s5, s6, s7⟩ := pm.2.2.2.2.1 (by omega)
          rw [h] at s1
          have ek : k = k' := by simpa using s1
          rw [← ek] at s2
          exact ⟨k, D, rfl, s2, by rw [← he', qE_s s2], fun r => absurd r e1, fun r => s6 r⟩
  have hfn : ∀ x, qok Q x → qknd Q x = 4 → ∃ k s D, qded Q x = some k ∧ qnum Q x = some s ∧ zfun (qP Q DL) x = qFs Q DL k (s + 1) ∧ DL[k + s]? = some D ∧ D.2 = none ∧ ∀ j, j < s → ∃ E, DL[k + j]? = some E := fun x hx hk => by
    obtain ⟨k, s, f, a, D, s1, s2, s3, s4, s5, s6, s7, s8, s9, s10, s11⟩ := (hQ.2.2.2.2.1 x hx).2.2.2.2.2 hk
    refine ⟨k, s, D, s1, s2, ?_, s4, s5, fun j hj => ?_⟩
    · rw [q_fun hk, s1, s2]; rfl
    · obtain ⟨E, e1, -⟩ := s11 j hj
      exact ⟨E, e1⟩
  refine ⟨⟨w1, fun u hu => ⟨(w2 u hu).1, (w2 u hu).2.1, (w2 u hu).2.2, fun i hi => hi⟩, fun x hx => ⟨(w6 x hx).1, fun e he => ?_, fun e he => ?_, fun hk => ?_, fun hk e he => ?_, (w6 x hx).2.1⟩, ?_, fun e he => ?_⟩, fun u hu g => rfl, fun x y a h1 h2 h3 h4 h5 => ?_, fun x hx => ⟨fun r => ?_, fun r e he => ?_, fun r => ?_, (w6 x hx).2.2, fun r => ?_⟩⟩
  · by_cases hk : qknd Q x = 4
    · have : zini (qP Q DL) x = none := if_pos hk
      rw [this] at he; simp at he
    · obtain ⟨k, D, s1, s2, s3, -⟩ := hded x hx hk e he
      rw [s3]; exact q_dok hG (p_mem s2)
  · by_cases hk : qknd Q x = 4
    · obtain ⟨k, s, D, s1, s2, s3, s4, s5, s6⟩ := hfn x hx hk
      rw [s3] at he
      obtain ⟨j, j1, j2⟩ := qFs_mem (s + 1) k e he
      by_cases ej : j = s
      · rw [j2, ej, qE_s s4]; exact q_dok hG (p_mem s4)
      · obtain ⟨E, e1⟩ := s6 j (by omega)
        rw [j2, qE_s e1]; exact q_dok hG (p_mem e1)
    · have : zfun (qP Q DL) x = [] := if_neg hk
      rw [this] at he; simp at he
  · have hk' : qknd Q x = 4 := hk
    obtain ⟨k, s, D, s1, s2, s3, s4, s5, s6⟩ := hfn x hx hk'
    refine ⟨if_pos hk', ⟨qFs Q DL k s, (qrd Q D).1, ?_⟩, (w6 x hx).2.2 (Or.inr (Or.inr hk'))⟩
    rw [s3, qFs_la, qE_s s4]
    congr 2
    show ((qrd Q D).1, qrt Q D.2) = _
    rw [s5]; rfl
  · have hk' : qknd Q x = 1 := hk
    obtain ⟨k, D, s1, s2, s3, s4, -⟩ := hded x hx (by omega) e he
    rw [s3]
    show qrt Q D.2 = none
    rw [s4 hk']; rfl
  · show ((qstp Q).map (qE Q DL)).length ≤ 10
    rw [List.length_map]; exact w7
  · have he' : e ∈ (qstp Q).map (qE Q DL) := he
    obtain ⟨j, j1, j2⟩ := List.mem_map.1 he'
    obtain ⟨k, hk, hk2⟩ := List.getElem_of_mem j1
    obtain ⟨a, D, s1, s2, s3, s4⟩ := hQ.2.2.2.2.2 k j (by rw [List.getElem?_eq_getElem hk, hk2])
    rw [← j2, qE_s s3]; exact q_dok hG (p_mem s3)
  · have ha : a < 26 := (w6 x h1.1).2.1 a h4
    have k1 := (w5 (x / 12) a x ha).2 ⟨h1.1, rfl, h1.2, h4⟩
    have k2 := (w5 (x / 12) a y ha).2 ⟨h2.1, h3.symm, h2.2, h5⟩
    rw [k1] at k2
    simpa using k2
  · have r' : qknd Q x = 1 ∨ qknd Q x = 2 := r
    have pm := hQ.2.2.2.2.1 x hx
    rcases r' with r' | r'
    · exact (pm.2.2.2.1 r').1
    · exact (pm.2.2.2.2.1 (Or.inl r')).1
  · have r' : qknd Q x = 2 := r
    obtain ⟨k, D, s1, s2, s3, -, s4⟩ := hded x hx (by omega) e he
    rw [s3]
    show qrt Q D.2 = none
    rw [s4 r']; rfl
  · have r' : qknd Q x = 3 := r
    obtain ⟨-, k, D, a, s1, s2, s3, s4, s5, s6, s7⟩ := (hQ.2.2.2.2.1 x hx).2.2.2.2.1 (Or.inr r')
    have hne := s7 r'
    cases hD : D.2 with
    | none => exact absurd hD hne
    | some t =>
      obtain ⟨y, k1, k2, k3, k4⟩ := qrt_sp hW (hG.2.2.2.2 D (p_mem s2) t hD)
      refine ⟨qrd Q D, y, ?_, ?_⟩
      · rw [q_ini (by omega), s1]
        show some (qE Q DL k) = _
        rw [qE_s s2]
      · show qrt Q D.2 = some y
        rw [hD]; exact k4
  · have r' : qknd Q x = 4 := r
    obtain ⟨k, s, D, s1, s2, s3, s4, s5, s6⟩ := hfn x hx r'
    rw [s3, qFs_len]
    show qnum Q x = _
    rw [s2]; rfl
end SJ
