/-! ===== t: the program that a text tells ===== -/
def qE (Q : pQ) (DL : List pD) (k : Nat) : zDeed := match DL[k]? with
  | some D => qrd Q D
  | none => ([], none)
def qFs (Q : pQ) (DL : List pD) : Nat → Nat → List zDeed
  | _, 0 => []
  | k, s + 1 => qE Q DL k :: qFs Q DL (k + 1) s
def qP (Q : pQ) (DL : List pD) : zP := ((qn Q, qlet Q, qabv Q, qcnt Q), (qknd Q, qnam Q, qnum Q, (fun x => if qknd Q x = 4 then none else (qded Q x).map (qE Q DL)), fun x => if qknd Q x = 4 then qFs Q DL ((qded Q x).getD 0) ((qnum Q x).getD 0 + 1) else []), (qstp Q).map (qE Q DL), (fun _ i => i), fun _ => true)
/-- nothing is wrong -/
def qG (Q : pQ) (DL : List pD) : Prop := qW Q ∧ qV Q ∧ (∀ D ∈ DL, pgd D) ∧ (∀ D ∈ DL, ∀ q ∈ D.1, ¬ qbc Q q) ∧ ∀ D ∈ DL, ∀ s, D.2 = some s → ¬ qbt Q s
section SH
variable {Q : pQ} {DL : List pD} {nt na : Nat} {w w2 : XM}
theorem qE_s {k : Nat} {D : pD} (h : DL[k]? = some D) : qE Q DL k = qrd Q D := by unfold qE; rw [h]
theorem p_mem {k : Nat} {D : pD} (h : DL[k]? = some D) : D ∈ DL := List.mem_of_getElem? h
theorem qFs_len : ∀ (s k : Nat), (qFs Q DL k s).length = s
  | 0, _ => rfl
  | s + 1, k => by show (qFs Q DL (k + 1) s).length + 1 = _; rw [qFs_len s]
theorem qFs_la : ∀ (s k : Nat), qFs Q DL k (s + 1) = qFs Q DL k s ++ [qE Q DL (k + s)]
  | 0, k => rfl
  | s + 1, k => by
    show qE Q DL k :: qFs Q DL (k + 1) (s + 1) = qE Q DL k :: (qFs Q DL (k + 1) s ++ [qE Q DL (k + (s + 1))])
    rw [qFs_la s (k + 1), show k + 1 + s = k + (s + 1) by omega]
theorem qFs_mem : ∀ (s k : Nat) (e : zDeed), e ∈ qFs Q DL k s → ∃ j, j < s ∧ e = qE Q DL (k + j)
  | 0, _, e, h => by simp [qFs] at h
  | s + 1, k, e, h => by
    have h' : e ∈ qE Q DL k :: qFs Q DL (k + 1) s := h
    rcases List.mem_cons.1 h' with r | r
    · exact ⟨0, by omega, r⟩
    · obtain ⟨j, q1, q2⟩ := qFs_mem s (k + 1) e r
      exact ⟨j + 1, by omega, by rw [q2, show k + 1 + j = k + (j + 1) by omega]⟩
theorem pcs_mem : ∀ {L : List pD} {D : pD} {q : pK}, D ∈ L → q ∈ D.1 → q ∈ pcs L
  | E :: L, D, q, h, hq => by
    show q ∈ E.1 ++ pcs L
    rcases List.mem_cons.1 h with r | r
    · rw [← r]; exact List.mem_append_left _ hq
    · exact List.mem_append_right _ (pcs_mem r hq)
theorem pcs_inv : ∀ {L : List pD} {q : pK}, q ∈ pcs L → ∃ D ∈ L, q ∈ D.1
  | [], q, h => by simp [pcs] at h
  | E :: L, q, h => by
    have h' : q ∈ E.1 ++ pcs L := h
    rcases List.mem_append.1 h' with r | r
    · exact ⟨E, List.mem_cons_self .., r⟩
    · obtain ⟨D, d1, d2⟩ := pcs_inv r
      exact ⟨D, List.mem_cons_of_mem _ d1, d2⟩
theorem qb_mid (x : Nat) : zmid (qP Q DL) x = qid Q x := by
  have h : ∀ u, zbase (qP Q DL) u = qbs (qcnt Q) u := fun u => by
    induction u with
    | zero => rfl
    | succ u ih => show zbase (qP Q DL) u + qcnt Q u = _; rw [ih]; rfl
  unfold zmid qid
  rw [h]
/-- what a code comes to -/
theorem qrc_sp (hW : qW Q) {q : pK} (hb : ¬ qbc Q q) (hq : q.1 = 1 ∨ q.1 = 2) : ∃ x, qlk Q q.2.1 = some x ∧ qok Q x ∧ ((q.1 = 1 ∧ qknd Q x = 0 ∧ qrc Q q = (0, (qnum Q x).getD 0)) ∨ (q.1 = 1 ∧ qknd Q x = 1 ∧ qrc Q q = (1, x)) ∨ (q.1 = 2 ∧ qknd Q x = 4 ∧ qrc Q q = (2, x))) := by
  cases hl : qlk Q q.2.1 with
  | none => exact absurd ⟨hq, fun ⟨x, hx, _⟩ => by rw [hl] at hx; simp at hx⟩ hb
  | some x =>
    obtain ⟨hok, hkk⟩ := qlk_ok hW hl
    have hiff : qknd Q x = 4 ↔ q.1 = 2 := by
      by_cases r : qknd Q x = 4 ↔ q.1 = 2
      · exact r
      · exact absurd ⟨hq, fun ⟨x', hx', hr⟩ => by
          rw [hl] at hx'
          have e : x = x' := by simpa using hx'
          rw [← e] at hr
          exact r hr⟩ hb
    have erc : qrc Q q = if qknd Q x = 0 then (0, (qnum Q x).getD 0) else (q.1, x) := by
      unfold qrc
      rw [if_pos hq, hl]
    refine ⟨x, rfl, hok, ?_⟩
    rcases hq with h1 | h1
    · have h4 : ¬ qknd Q x = 4 := fun r => by have := hiff.1 r; omega
      by_cases h0 : qknd Q x = 0
      · exact Or.inl ⟨h1, h0, by rw [erc, if_pos h0]⟩
      · exact Or.inr (Or.inl ⟨h1, by omega, by rw [erc, if_neg h0, h1]⟩)
    · have h4 := hiff.2 h1
      exact Or.inr (Or.inr ⟨h1, h4, by rw [erc, if_neg (by omega), h1]⟩)
theorem qrc_ot {q : pK} (hq : ¬ (q.1 = 1 ∨ q.1 = 2)) : qrc Q q = (q.1, q.2.1) := by unfold qrc; rw [if_neg hq]
theorem pcw_z (hW : qW Q) (hV : qV Q) : ∀ (l : List pK) (s : Nat), pcw l s 1 → (∀ q ∈ l, ¬ qbc Q q) → zcw (l.map (qrc Q)) s
  | [], s, h, _ => h
  | q :: l, s, h, hb => by
    have h1 : if 4 ≤ q.1 then q.1 ≤ 6 ∧ 2 ≤ s ∧ pcw l (s - 1) 1 else q.2.1 < 1000 ∧ s < 8 ∧ pcw l (s + 1) 1 := h
    have hb' : ∀ q' ∈ l, ¬ qbc Q q' := fun q' r => hb q' (List.mem_cons_of_mem _ r)
    show if 4 ≤ (qrc Q q).1 then (qrc Q q).1 ≤ 6 ∧ 2 ≤ s ∧ zcw (l.map (qrc Q)) (s - 1) else (qrc Q q).2 < 1000 ∧ s < 8 ∧ zcw (l.map (qrc Q)) (s + 1)
    by_cases hq : q.1 = 1 ∨ q.1 = 2
    · rw [if_neg (by omega)] at h1
      obtain ⟨x, hl, hok, hc⟩ := qrc_sp hW (hb q (List.mem_cons_self ..)) hq
      have hx84 := (qid_lt hW hok).2.2
      rcases hc with ⟨c1, c2, c3⟩ | ⟨c1, c2, c3⟩ | ⟨c1, c2, c3⟩
      · obtain ⟨v, hv, hv9⟩ := hV x hok c2
        rw [c3, hv]
        exact ⟨by show v < 1000; omega, h1.2.1, pcw_z hW hV l (s + 1) h1.2.2 hb'⟩
      · rw [c3]
        exact ⟨by show x < 1000; omega, h1.2.1, pcw_z hW hV l (s + 1) h1.2.2 hb'⟩
      · rw [c3]
        exact ⟨by show x < 1000; omega, h1.2.1, pcw_z hW hV l (s + 1) h1.2.2 hb'⟩
    · rw [qrc_ot hq]
      by_cases h4 : 4 ≤ q.1
      · rw [if_pos h4] at h1
        show if 4 ≤ q.1 then _ else _
        rw [if_pos h4]
        exact ⟨h1.1, h1.2.1, pcw_z hW hV l (s - 1) h1.2.2 hb'⟩
      · rw [if_neg h4] at h1
        show if 4 ≤ q.1 then _ else _
        rw [if_neg h4]
        exact ⟨h1.1, h1.2.1, pcw_z hW hV l (s + 1) h1.2.2 hb'⟩
theorem qrt_sp (hW : qW Q) {s : Nat × Nat} (hb : ¬ qbt Q s) : ∃ x, qlk Q s.1 = some x ∧ qok Q x ∧ qknd Q x = 1 ∧ qrt Q (some s) = some x := by
  have : ∃ x, qlk Q s.1 = some x ∧ qknd Q x = 1 := Classical.byContradiction hb
  obtain ⟨x, h1, h2⟩ := this
  refine ⟨x, h1, (qlk_ok hW h1).1, h2, ?_⟩
  show some ((qlk Q s.1).getD 0) = some x
  rw [h1]; rfl
theorem q_dok (hG : qG Q DL) {D : pD} (hD : D ∈ DL) : zdok (qP Q DL) (qrd Q D) := by
  obtain ⟨hW, hV, hg, hb, ht⟩ := hG
  refine ⟨⟨pcw_z hW hV D.1 0 (hg D hD).1 (hb D hD), fun c hc => ?_⟩, fun x hx => ?_⟩
  · obtain ⟨q, hq, e⟩ := List.mem_map.1 hc
    by_cases hk : q.1 = 1 ∨ q.1 = 2
    · obtain ⟨x, hl, hok, hcc⟩ := qrc_sp hW (hb D hD q hq) hk
      rcases hcc with ⟨c1, c2, c3⟩ | ⟨c1, c2, c3⟩ | ⟨c1, c2, c3⟩
      · rw [← e, c3]; exact ⟨fun r => by simp at r, fun r => by simp at r⟩
      · rw [← e, c3]; exact ⟨fun _ => ⟨hok, c2⟩, fun r => by simp at r⟩
      · rw [← e, c3]; exact ⟨fun r => by simp at r, fun _ => ⟨hok, c2⟩⟩
    · rw [← e, qrc_ot hk]
      exact ⟨fun r => absurd (Or.inl r) hk, fun r => absurd (Or.inr r) hk⟩
  · have hx' : qrt Q D.2 = some x := hx
    cases hD2 : D.2 with
    | none => rw [hD2] at hx'; simp [qrt] at hx'
    | some s =>
      obtain ⟨x', h1, h2, h3, h4⟩ := qrt_sp hW (ht D hD s hD2)
      rw [hD2, h4] at hx'
      have e : x' = x := by simpa using hx'
      rw [← e]; exact ⟨h2, h3⟩
/-- leaves, terms, sums once names are numbers -/
theorem q_leaf (hG : qG Q DL) (hI : qIv w Q DL nt na w2) (hna : na ≤ 150) {t : Nat} {q : pK} (ht : t < nt) (hq : q ∈ pcs DL) (hb : ¬ qbc Q q) (h : pleaf (gi w 89) t q) : yleaf (gi w2 89) (qP Q DL) t (qrc Q q) := by
  have hW := hG.1
  have h1 : gi w2 89 (1410 + 6 * t + 1) = gi w 89 (1410 + 6 * t + 1) := hI.2.1 _ (fun t' _ => by omega) (fun a' _ => by omega)
  by_cases hk : q.1 = 1 ∨ q.1 = 2
  · obtain ⟨x, hl, hok, hc⟩ := qrc_sp hW hb hk
    obtain ⟨x', e1, e2, e3⟩ := (hI.2.2.1 t ht).1 q hq hk h
    rw [hl] at e1
    have ex : x = x' := by simpa using e1
    rw [← ex] at e2 e3
    have a1 := (pleaf_k h hk).1
    rcases hc with ⟨c1, c2, c3⟩ | ⟨c1, c2, c3⟩ | ⟨c1, c2, c3⟩
    · rw [c3]
      obtain ⟨v, hv, -⟩ := hG.2.1 x hok c2
      exact Or.inr (Or.inr (Or.inl ⟨by rw [h1, a1, c1], rfl, x, hok, c2, by rw [qb_mid]; exact e3, by show qnum Q x = some ((qnum Q x).getD 0); rw [hv]; rfl⟩))
    · rw [c3]
      exact Or.inr (Or.inr (Or.inr ⟨by rw [h1, a1, c1], Or.inl rfl, e2, by rw [qb_mid]; exact e3⟩))
    · rw [c3]
      exact Or.inr (Or.inr (Or.inr ⟨by rw [h1, a1, c1], Or.inr rfl, e2, by rw [qb_mid]; exact e3⟩))
  · rw [qrc_ot hk]
    rcases h with ⟨b1, b2, b3⟩ | ⟨b1, b2⟩ | b
    · have := ((hI.2.2.1 t ht).2 (by rw [b1, zN_eq (by omega) (by omega)]; omega) (by rw [b1, zN_eq (by omega) (by omega)]; omega)).1
      exact Or.inl ⟨by rw [h1]; exact b1, b2, by rw [this]; exact b3⟩
    · exact Or.inr (Or.inl ⟨by rw [h1]; exact b1, b2⟩)
    · exact absurd b.1 hk
theorem q_ch (hI : qIv w Q DL nt na w2) (hna : na ≤ 150) {T : Nat → List pK → Prop} {T' : Nat → List zCode → Prop} (hT : ∀ t l, (∀ q ∈ l, q ∈ pcs DL) → T t l → T' t (l.map (qrc Q))) : ∀ (ts : List Nat) (p : Nat) (l : List pK), (∀ q ∈ l, q ∈ pcs DL) → pCh (gi w 89) T ts p l → yCh (gi w2 89) T' ts p (l.map (qrc Q))
  | [], p, l, _, h => ⟨by rw [hI.2.1 _ (fun t' _ => by omega) (fun a' _ => by omega)]; exact h.1, by rw [h.2]; rfl⟩
  | t :: ts, p, l, hl, h => by
    obtain ⟨q1, q2, lt, o, l', q3, q4, q5, q6, q7, q8⟩ := h
    refine ⟨q1, by rw [hI.2.1 _ (fun t' _ => by omega) (fun a' _ => by omega)]; exact q2, lt.map (qrc Q), o, l'.map (qrc Q), hT t lt (fun q r => hl q (by rw [q7]; exact List.mem_append_left _ r)) q3, q4, q5, by rw [hI.2.1 _ (fun t' _ => by omega) (fun a' _ => by omega)]; exact q6, ?_, q_ch hI hna hT ts t l' (fun q r => hl q (by rw [q7]; exact List.mem_append_right _ (List.mem_cons_of_mem _ r))) q8⟩
    rw [q7, List.map_append, List.map_cons, qrc_ot (q := (o, 0, 0)) (by show ¬ (o = 1 ∨ o = 2); omega)]
theorem q_tm (hG : qG Q DL) (hI : qIv w Q DL nt na w2) (hna : na ≤ 150) (hnt : nt ≤ 300) : ∀ (n t : Nat) (l : List pK), (∀ q ∈ l, q ∈ pcs DL) → pTm (gi w 89) nt n t l → yTm (gi w2 89) (qP Q DL) n t (l.map (qrc Q))
  | 0, _, _, _, h => h.elim
  | n + 1, t, l, hl, h => by
    obtain ⟨h1, h2⟩ := h
    refine ⟨by omega, ?_⟩
    rcases h2 with ⟨q, q1, q2⟩ | ⟨q1, f, q2, q3, l0, ts, lr, q4, q5, q6, q7⟩
    · have hq := hl q (by rw [q1]; exact List.mem_cons_self ..)
      obtain ⟨D, d1, d2⟩ := pcs_inv hq
      exact Or.inl ⟨qrc Q q, by rw [q1]; rfl, q_leaf hG hI hna h1 hq (hG.2.2.2.1 D d1 q d2) q2⟩
    · have := ((hI.2.2.1 t h1).2 (by rw [q1, zN_eq (by omega) (by omega)]; omega) (by rw [q1, zN_eq (by omega) (by omega)]; omega)).1
      refine Or.inr ⟨by rw [hI.2.1 _ (fun t' _ => by omega) (fun a' _ => by omega)]; exact q1, f, by rw [this]; exact q2, l0.map (qrc Q), ts, lr.map (qrc Q), q_tm hG hI hna hnt n f l0 (fun q r => hl q (by rw [q7]; exact List.mem_append_left _ r)) q4, q5, q_ch hI hna (fun t' l' r1 r2 => q_tm hG hI hna hnt n t' l' r1 r2) ts f lr (fun q r => hl q (by rw [q7]; exact List.mem_append_right _ r)) q6, by rw [q7, List.map_append]⟩
theorem q_sum (hG : qG Q DL) (hI : qIv w Q DL nt na w2) (hna : na ≤ 150) (hnt : nt ≤ 300) {f : Nat} {D : pD} (hD : D ∈ DL) (h : pSm (gi w 89) (pTm (gi w 89) nt 9) f D.1) : ySum (gi w2 89) (qP Q DL) f (qrd Q D).1 := by
  obtain ⟨l0, ts, lr, h1, h2, h3, h4⟩ := h
  have hl : ∀ q ∈ D.1, q ∈ pcs DL := fun q r => pcs_mem hD r
  exact ⟨l0.map (qrc Q), ts, lr.map (qrc Q), q_tm hG hI hna hnt 9 f l0 (fun q r => hl q (by rw [h4]; exact List.mem_append_left _ r)) h1, h2, q_ch hI hna (fun t' l' r1 r2 => q_tm hG hI hna hnt 9 t' l' r1 r2) ts f lr (fun q r => hl q (by rw [h4]; exact List.mem_append_right _ r)) h3, by show D.1.map (qrc Q) = _; rw [h4, List.map_append]⟩
theorem q_act (hG : qG Q DL) (hI : qIv w Q DL nt na w2) (hna : na ≤ 150) (hnt : nt ≤ 300) {a : Nat} {D : pD} (ha : a < na) (hD : D ∈ DL) (h : pact (gi w 89) nt a D) : yact (gi w2 89) (qP Q DL) a (qrd Q D) := by
  obtain ⟨h1, ⟨f, h2, h3⟩, h4, h5⟩ := h
  refine ⟨h1, ⟨f, by rw [hI.2.1 _ (fun t' _ => by omega) (fun a' _ => by omega)]; exact h2, q_sum hG hI hna hnt hD h3⟩, fun e => ?_, fun x e => ?_⟩
  · have e' : qrt Q D.2 = none := e
    cases hD2 : D.2 with
    | none => exact (hI.2.2.2 a ha).2 (h4 hD2)
    | some s => rw [hD2] at e'; simp [qrt] at e'
  · have e' : qrt Q D.2 = some x := e
    cases hD2 : D.2 with
    | none => rw [hD2] at e'; simp [qrt] at e'
    | some s =>
      obtain ⟨x', k1, k2, k3, k4⟩ := qrt_sp hG.1 (hG.2.2.2.2 D hD s hD2)
      rw [hD2, k4] at e'
      have ex : x' = x := by simpa using e'
      obtain ⟨x2, j1, j2, j3⟩ := (hI.2.2.2 a ha).1 D hD s hD2 (h5 s hD2)
      rw [k1] at j1
      have ex2 : x' = x2 := by simpa using j1
      rw [qb_mid, ← ex, ex2]; exact ⟨j2, j3⟩
end SH
