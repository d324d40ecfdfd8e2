/-! ===== t: a member is there, of both ===== -/
theorem p_gap {α : Type} {l l' : List α} {k : Nat} {a : α} (h : l[k]? = some a) : (l ++ l')[k]? = some a := by
  obtain ⟨hk, e⟩ := List.getElem?_eq_some_iff.1 h
  rw [List.getElem?_append_left hk]
  exact h
theorem p_gal {α : Type} {l : List α} {a : α} : (l ++ [a])[l.length]? = some a := by
  rw [List.getElem?_append_right (Nat.le_refl _), Nat.sub_self]
  rfl
section TT
variable {N : Nat → Nat} {b : Nat → Nat} {n d i : Nat} {Q Q' : pQ} {DL : List pD} {nt na : Nat} {m m' w w' : XM} {K K' : Nat → Int32}
theorem pMem_fr {hi hi' na' x p : Nat} {E : List pD} (hh : hi ≤ hi') (hn : na ≤ na') (h0 : ∀ o, o < 5 → K' (p + o) = K (p + o)) (h1 : ∀ k, 1410 ≤ k → k < 1410 + 6 * hi → K' k = K k) (h2 : ∀ a o, a < na → o < 4 → K' (530 + 4 * a + o) = K (530 + 4 * a + o)) (e1 : qknd Q' x = qknd Q x) (e2 : qnam Q' x = qnam Q x) (e3 : qnum Q' x = qnum Q x) (e4 : qded Q' x = qded Q x) (h : pMem K hi na Q DL x p) : pMem K' hi' na' Q' (DL ++ E) x p := by
  have h00 := h0 0 (by omega)
  rw [Nat.add_zero] at h00
  have hS : ∀ f l, pSm K (pTm K hi 9) f l → pSm K' (pTm K' hi' 9) f l := fun f l q => pSm_fr hh (fun k r1 r2 => h1 k (by omega) r2) q
  have hA : ∀ a D, a < na → pact K hi a D → pact K' hi' a D := fun a D ha q => pact_fr hh (fun o ho => h2 a o ha ho) h1 q
  unfold pMem at h ⊢
  rw [e1, e2, e3, e4, h00, h0 1 (by omega), h0 2 (by omega), h0 3 (by omega), h0 4 (by omega)]
  obtain ⟨q1, q2, q3, q4, q5, q6⟩ := h
  refine ⟨q1, q2, q3, fun r => ⟨(q4 r).1, (q4 r).2.1, fun k hk => ?_⟩, fun r => ⟨(q5 r).1, ?_⟩, fun r => ?_⟩
  · obtain ⟨D, f, s1, s2, s3, s4⟩ := (q4 r).2.2 k hk
    exact ⟨D, f, p_gap s1, s2, s3, hS _ _ s4⟩
  · obtain ⟨k, D, a, s1, s2, s3, s4, s5, s6⟩ := (q5 r).2
    exact ⟨k, D, a, s1, p_gap s2, s3, by omega, hA a D s4 s5, s6⟩
  · obtain ⟨k, s, f, a, D, s1, s2, s3, s4, s5, s6, s7, s8, s9, s10, s11⟩ := q6 r
    refine ⟨k, s, f, a, D, s1, s2, s3, p_gap s4, s5, s6, hS _ _ s7, s8, s9, by omega, fun j hj => ?_⟩
    obtain ⟨E, t1, t2, t3⟩ := s11 j hj
    exact ⟨E, p_gap t1, t2, hA _ E (by omega) t3⟩
theorem rQ_mo {nt' na' : Nat} {E : List pD} (hW : qW Q) (hnt : nt ≤ 400) (hna : na ≤ 220) (g : rD nt na w w') (h1 : nt ≤ nt') (h2 : na ≤ na') (h : rQ w Q DL nt na) : rQ w' Q (DL ++ E) nt' na' := by
  have hk : ∀ k, ¬ (k = 2 ∨ k = 3 ∨ 1410 + 6 * nt ≤ k ∧ k < 3810 ∨ 530 + 4 * na ≤ k ∧ k < 1410) → gi w' 89 k = gi w 89 k := fun k q => g.1 _ _ (by omega) (by omega)
  obtain ⟨q1, q2, q3, q4, q5, q6⟩ := h
  have hn := hW.1
  refine ⟨by rw [hk _ (by omega)]; exact q1, by rw [hk _ (by omega)]; exact q2, by rw [hk _ (by omega)]; exact q3, fun u hu => ?_, fun x hx => ?_, fun k j hkj => ?_⟩
  · have hc := (hW.2.1 u hu).1
    obtain ⟨r1, r2, r3, r4⟩ := q4 u hu
    exact ⟨by rw [hk _ (by omega)]; exact r1, by rw [hk _ (by omega)]; exact r2, by rw [hk _ (by omega)]; exact r3, fun i hi => by rw [hk _ (by omega)]; exact r4 i hi⟩
  · have := qid_lt hW hx
    exact pMem_fr h1 h2 (fun o ho => hk _ (by omega)) (fun k r1 r2 => hk _ (by omega)) (fun a o r1 r2 => hk _ (by omega)) rfl rfl rfl rfl (q5 x hx)
  · obtain ⟨a, D, r1, r2, r3, r4⟩ := q6 k j hkj
    exact ⟨a, D, by rw [hk _ (by have := hW.2.2.2.2.2.2; obtain ⟨hl, -⟩ := List.getElem?_eq_some_iff.1 hkj; omega)]; exact r1, by omega, p_gap r3, pact_fr h1 (fun o ho => hk _ (by omega)) (fun k r1 r2 => hk _ (by omega)) r4⟩
theorem jD_w (h : jD N b n d i DL nt na m w) (hw : ∀ k, k = 2 ∨ k = 3 ∨ 530 ≤ k ∧ k < 3810 → gi w' 89 k = gi w 89 k) (hg : ∀ a k, gr w' a k = gr w a k) (hnt : nt ≤ 400) (hna : na ≤ 220) : jD N b n d i DL nt na m w' := by
  obtain ⟨h1, ⟨g1, g2, g3, g4, g5, g6⟩, h5, h6⟩ := h
  exact ⟨h1, ⟨rN_g g1 hg, by rw [hw _ (by omega)]; exact g2, by rw [hw _ (by omega)]; exact g3, g4, pfl_fr (fun t o q1 q2 q3 => hw _ (by omega)) g5, pafl_fr (fun a o q1 q2 => hw _ (by omega)) g6⟩, h5, h6⟩
theorem qbs_set (f : Nat → Nat) (u v : Nat) : ∀ k, k ≤ u → qbs (zset f u v) k = qbs f k
  | 0, _ => rfl
  | k + 1, h => by
    show qbs (zset f u v) k + zset f u v k = qbs f k + f k
    rw [qbs_set f u v k (by omega), zset_ne _ _ (by omega)]
section QA
variable {u k : Nat} {a v e : Option Nat}
theorem qok_add (hc : qcnt Q u < 12) (hu : u < qn Q) (y : Nat) : qok (qadd Q u k a v e) y ↔ qok Q y ∨ y = 12 * u + qcnt Q u := by
  show (y / 12 < qn Q ∧ y % 12 < zset (qcnt Q) u (qcnt Q u + 1) (y / 12)) ↔ (y / 12 < qn Q ∧ y % 12 < qcnt Q (y / 12)) ∨ y = 12 * u + qcnt Q u
  by_cases q : y / 12 = u
  · rw [q, zset_eq]
    constructor
    · intro h
      by_cases r : y % 12 < qcnt Q u
      · exact Or.inl ⟨h.1, r⟩
      · exact Or.inr (by omega)
    · intro h
      rcases h with h | h
      · exact ⟨h.1, by omega⟩
      · exact ⟨by omega, by omega⟩
  · rw [zset_ne _ _ q]
    constructor
    · intro h
      exact Or.inl h
    · intro h
      rcases h with h | h
      · exact h
      · exact absurd (by omega) q
theorem qid_add (hW : qW Q) (hu : u + 1 = qn Q) {y : Nat} (hy : y / 12 ≤ u) : qid (qadd Q u k a v e) y = qid Q y := by
  show qbs (zset (qcnt Q) u (qcnt Q u + 1)) (y / 12) + y % 12 = _
  rw [qbs_set _ _ _ _ hy]
  rfl
theorem qx_div (hc : qcnt Q u < 12) : (12 * u + qcnt Q u) / 12 = u ∧ (12 * u + qcnt Q u) % 12 = qcnt Q u := by omega
theorem qok_ne (hc : qcnt Q u < 12) {y : Nat} (hy : qok Q y) : y ≠ 12 * u + qcnt Q u := fun q => by
  have h := hy.2
  rw [q, (qx_div hc).1, (qx_div hc).2] at h
  omega
theorem qW_add (hW : qW Q) (hu : u + 1 = qn Q) (hc : qcnt Q u < 12) (hk : k ≤ 4) (ha : ∀ c, a = some c → c < 26 ∧ (k = 0 ∨ k = 1 ∨ k = 4) ∧ qnm Q u c = none) (hs : k = 0 ∨ k = 1 ∨ k = 4 → a.isSome) : qW (qadd Q u k a v e) := by
  have hxd := qx_div (u := u) hc
  obtain ⟨w1, w2, w3, w4, w5, w6, w7⟩ := hW
  refine ⟨w1, fun y hy => ?_, fun y hy => ?_, w4, fun y c x hc' => ?_, fun x hx => ?_, w7⟩
  · show zset (qcnt Q) u (qcnt Q u + 1) y ≤ 12 ∧ qlet Q y < 7 ∧ ∀ a, qabv Q y = some a → a < qn Q
    refine ⟨?_, (w2 y hy).2⟩
    by_cases q : y = u
    · rw [q, zset_eq]; omega
    · rw [zset_ne _ _ q]; exact (w2 y hy).1
  · show zset (qcnt Q) u (qcnt Q u + 1) y = 0
    have hy' : qn Q ≤ y := hy
    rw [zset_ne _ _ (by omega)]; exact w3 y hy
  · rw [qok_add hc (by omega)]
    show (if y = u ∧ a = some c then some (12 * u + qcnt Q u) else qnm Q y c) = some x ↔ _ ∧ _ ∧ (zset (qknd Q) _ k x = 0 ∨ zset (qknd Q) _ k x = 1 ∨ zset (qknd Q) _ k x = 4) ∧ zset (qnam Q) _ a x = some c
    by_cases q : x = 12 * u + qcnt Q u
    · rw [q, zset_eq, zset_eq, hxd.1]
      constructor
      · intro h
        by_cases r : y = u ∧ a = some c
        · exact ⟨Or.inr rfl, r.1.symm, (ha c r.2).2.1, r.2⟩
        · rw [if_neg r] at h
          exact absurd rfl (qok_ne hc ((w5 y c _ hc').1 h).1)
      · intro h
        rw [if_pos ⟨h.2.1.symm, h.2.2.2⟩]
    · rw [zset_ne _ _ q, zset_ne _ _ q]
      constructor
      · intro h
        by_cases r : y = u ∧ a = some c
        · rw [if_pos r] at h
          exact absurd (by simpa using h.symm) q
        · rw [if_neg r] at h
          have := (w5 y c x hc').1 h
          exact ⟨Or.inl this.1, this.2⟩
      · intro h
        have h1 := h.1.resolve_right q
        have h2 := (w5 y c x hc').2 ⟨h1, h.2⟩
        by_cases r : y = u ∧ a = some c
        · have := (ha c r.2).2.2
          rw [r.1] at h2
          rw [h2] at this
          simp at this
        · rw [if_neg r]; exact h2
  · rw [qok_add hc (by omega)] at hx
    show zset (qknd Q) _ k x ≤ 4 ∧ (∀ c, zset (qnam Q) _ a x = some c → c < 26) ∧ (zset (qknd Q) _ k x = 0 ∨ zset (qknd Q) _ k x = 1 ∨ zset (qknd Q) _ k x = 4 → (zset (qnam Q) _ a x).isSome)
    by_cases q : x = 12 * u + qcnt Q u
    · rw [q, zset_eq, zset_eq]
      exact ⟨hk, fun c hc' => (ha c hc').1, hs⟩
    · rw [zset_ne _ _ q, zset_ne _ _ q]
      exact w6 x (hx.resolve_right q)
theorem cQ_add (h : cQ m d Q) (hu : u + 1 = qn Q) (hn : qn Q ≤ 7) (hc : qcnt Q u < 12) (hd : d = 3 ∨ d = 28) (ha : ∀ c, a = some c → c < 26)
    (H : ∀ z j, (z = d ∧ (j = 0 ∨ j = 11)) ∨ z = d + 1 ∨ z = d + 2 ∨ z = d + 11 ∨ z = 21 ∨ (z = d + 3 ∧ j ≠ u) ∨ (d + 4 ≤ z ∧ z ≤ d + 9 ∧ j ≠ 12 * u + qcnt Q u) ∨ (z = d + 10 ∧ ∀ c, a = some c → j ≠ 26 * u + c) → gi m' z j = gi m z j)
    (x3 : gi m' (d + 3) u = zN (qcnt Q u + 1)) (x4 : gi m' (d + 4) (12 * u + qcnt Q u) = zN k) (x5 : gi m' (d + 5) (12 * u + qcnt Q u) = zopt a) (x6 : gi m' (d + 6) (12 * u + qcnt Q u) = zopt v) (x7 : gi m' (d + 7) (12 * u + qcnt Q u) = zopt e) (x8 : gi m' (d + 8) (12 * u + qcnt Q u) = zN 1) (x9 : gi m' (d + 9) (12 * u + qcnt Q u) = zN (12 * u + qcnt Q u)) (x10 : ∀ c, a = some c → gi m' (d + 10) (26 * u + c) = zN (12 * u + qcnt Q u)) : cQ m' d (qadd Q u k a v e) := by
  obtain ⟨h1, h2, h3, h4, h5, h6, h7, h8⟩ := h
  refine ⟨by rw [H _ _ (by omega)]; exact h1, by rw [H _ _ (by omega)]; exact h2, fun y hy => ?_, fun y hy => ?_, fun x hx => ?_, fun y c hy hc' => ?_, fun L hL => ?_, fun kk j hj => ?_⟩
  · rw [H _ _ (by omega), H _ _ (by omega)]; exact h3 y hy
  · show gi m' (d + 3) y = zN (zset (qcnt Q) u (qcnt Q u + 1) y)
    by_cases q : y = u
    · rw [q, zset_eq]; exact x3
    · rw [zset_ne _ _ q, H _ _ (by omega)]; exact h4 y hy
  · rw [qok_add hc (by omega)] at hx
    show gi m' (d + 4) x = zN (zset (qknd Q) _ k x) ∧ gi m' (d + 5) x = zopt (zset (qnam Q) _ a x) ∧ gi m' (d + 6) x = zopt (zset (qnum Q) _ v x) ∧ gi m' (d + 7) x = zopt (zset (qded Q) _ e x) ∧ _
    by_cases q : x = 12 * u + qcnt Q u
    · rw [q, zset_eq, zset_eq, zset_eq, zset_eq]
      exact ⟨x4, x5, x6, x7, x8, x9⟩
    · rw [zset_ne _ _ q, zset_ne _ _ q, zset_ne _ _ q, zset_ne _ _ q, H _ _ (by omega), H _ _ (by omega), H _ _ (by omega), H _ _ (by omega), H _ _ (by omega), H _ _ (by omega)]
      exact h5 x (hx.resolve_right q)
  · show gi m' (d + 10) (26 * y + c) = zopt (if y = u ∧ a = some c then some (12 * u + qcnt Q u) else qnm Q y c)
    by_cases q : y = u ∧ a = some c
    · rw [if_pos q, q.1]; exact x10 c q.2
    · rw [if_neg q]
      have hne : ∀ c', a = some c' → 26 * y + c ≠ 26 * u + c' := fun c' hc'' r => q (by
        have := ha c' hc''
        have e1 : y = u := by omega
        exact ⟨e1, by rw [hc'']; congr 1; omega⟩)
      rw [H _ _ (Or.inr (Or.inr (Or.inr (Or.inr (Or.inr (Or.inr (Or.inr ⟨rfl, hne⟩)))))))]
      exact h6 y c hy hc'
  · rw [H _ _ (by omega)]; exact h7 L hL
  · rw [H _ _ (by omega)]; exact h8 kk j hj
theorem rQ_add {A B C av : Int32} (hW : qW Q) (h : rQ w Q DL nt na) (hu : u + 1 = qn Q) (hc : qcnt Q u < 12) (hnt : nt ≤ 400) (hna : na ≤ 220) (hM : pMem (gi (radm w u (qbs (qcnt Q) (qn Q)) (qcnt Q u) (zN k) av A B C) 89) nt na (qadd Q u k a v e) DL (12 * u + qcnt Q u) (110 + 5 * qbs (qcnt Q) (qn Q))) : rQ (radm w u (qbs (qcnt Q) (qn Q)) (qcnt Q u) (zN k) av A B C) (qadd Q u k a v e) DL nt na := by
  have hn := hW.1
  have hbs : qbs (qcnt Q) (qn Q) = qbs (qcnt Q) u + qcnt Q u := by rw [← hu]; rfl
  have hbl := qbs_le hW u (by omega)
  have hr : ∀ j, ¬ (j = 1 ∨ j = 5 + 15 * u + 3 + qcnt Q u ∨ j = 5 + 15 * u + 2 ∨ 110 + 5 * qbs (qcnt Q) (qn Q) ≤ j ∧ j < 110 + 5 * qbs (qcnt Q) (qn Q) + 5) → gi (radm w u (qbs (qcnt Q) (qn Q)) (qcnt Q u) (zN k) av A B C) 89 j = gi w 89 j := fun j q => radm_n hc (by omega)
  obtain ⟨o1, o2, o3, o4, o5, o6, o7, o8⟩ := radm_o (w := w) (u := u) (M := qbs (qcnt Q) (qn Q)) (c := qcnt Q u) (k := zN k) (a := av) (A := A) (B := B) (C := C) (by omega) hc
  obtain ⟨q1, q2, q3, q4, q5, q6⟩ := h
  refine ⟨by rw [hr _ (by omega)]; exact q1, ?_, by rw [hr _ (by omega)]; exact q3, fun y hy => ?_, fun x hx => ?_, fun kk j hkj => ?_⟩
  · rw [o6]
    show _ = zN (qbs (zset (qcnt Q) u (qcnt Q u + 1)) (qn Q))
    rw [← hu]
    show _ = zN (qbs (zset (qcnt Q) u (qcnt Q u + 1)) u + zset (qcnt Q) u (qcnt Q u + 1) u)
    rw [qbs_set _ _ _ _ (Nat.le_refl _), zset_eq]
    rfl
  · have hy' : y < qn Q := hy
    obtain ⟨r1, r2, r3, r4⟩ := q4 y hy
    have hcy := (hW.2.1 y hy).1
    refine ⟨by rw [hr _ (by omega)]; exact r1, by rw [hr _ (by omega)]; exact r2, ?_, fun i hi => ?_⟩
    · show _ = zN (zset (qcnt Q) u (qcnt Q u + 1) y)
      by_cases q : y = u
      · rw [q, zset_eq]; exact o8
      · rw [zset_ne _ _ q, hr _ (by omega)]; exact r3
    · have hi' : i < zset (qcnt Q) u (qcnt Q u + 1) y := hi
      show _ = zN (qbs (zset (qcnt Q) u (qcnt Q u + 1)) y + i)
      rw [qbs_set _ _ _ _ (by omega)]
      by_cases q : y = u
      · rw [q, zset_eq] at hi'
        by_cases r : i = qcnt Q u
        · rw [q, r, o7, hbs]
        · rw [q, hr _ (by omega), ← q]; exact r4 i (by rw [q]; omega)
      · rw [zset_ne _ _ q] at hi'
        rw [hr _ (by omega)]; exact r4 i hi'
  · rw [qok_add hc (by omega)] at hx
    by_cases q : x = 12 * u + qcnt Q u
    · have e : qid (qadd Q u k a v e) x = qbs (qcnt Q) (qn Q) := by
        rw [qid_add hW hu (by omega)]
        unfold qid
        rw [q, (qx_div hc).1, (qx_div hc).2, hbs]
      rw [e, q]; exact hM
    · have hx' := hx.resolve_right q
      have hlt := qid_lt hW hx'
      have := hx'.1
      rw [qid_add hW hu (by omega)]
      have := pMem_fr (E := []) (K' := gi (radm w u (qbs (qcnt Q) (qn Q)) (qcnt Q u) (zN k) av A B C) 89) (Q' := qadd Q u k a v e) (Nat.le_refl nt) (Nat.le_refl na) (fun o ho => hr _ (by omega)) (fun k r1 r2 => hr _ (by omega)) (fun a o r1 r2 => hr _ (by omega)) (zset_ne _ _ q) (zset_ne _ _ q) (zset_ne _ _ q) (zset_ne _ _ q) (q5 x hx')
      rw [List.append_nil] at this
      exact this
  · obtain ⟨a, D, r1, r2, r3, r4⟩ := q6 kk j hkj
    exact ⟨a, D, by rw [hr _ (by omega)]; exact r1, r2, r3, pact_fr (Nat.le_refl _) (fun o ho => hr _ (by omega)) (fun k r1 r2 => hr _ (by omega)) r4⟩
end QA
end TT
