/-! ===== y: the reference's whole runs ===== -/
theorem yMr_fr {b : Bool} {m m' : XM} {P : zP} {s : zS} (h0 : ∀ a k, 94 ≤ a → a < 106 → gi m' a k = gi m a k) (h1 : ∀ k, 27 ≤ k → k < 42 → gi m' 85 k = gi m 85 k) (h : yMr b m P s) : yMr b m' P s := by
  obtain ⟨q1, q2, q3, q4, q5, q6, q7, q8, q9, q10, q11, q12, q13⟩ := h
  refine ⟨fun u hu => ?_, fun x hx => ?_, fun x hx => ?_, ?_, zstk_fr (fun k => h0 _ _ (by omega) (by omega)) q5, ?_, ?_, ?_, ?_, ?_, fun u hu => ?_, ?_, fun hb => ysur_fr (fun k _ => h0 _ _ (by omega) (by omega)) (fun k _ => ⟨h0 _ _ (by omega) (by omega), h0 _ _ (by omega) (by omega)⟩) (q13 hb)⟩
  · rw [h0 _ _ (by omega) (by omega)]; exact q1 u hu
  · rw [h0 _ _ (by omega) (by omega)]; exact q2 x hx
  · rw [h0 _ _ (by omega) (by omega)]; exact q3 x hx
  · rw [h1 _ (by omega) (by omega)]; exact q4
  · rw [h1 _ (by omega) (by omega)]; exact q6
  · rw [h1 _ (by omega) (by omega)]; exact q7
  · rw [h1 _ (by omega) (by omega)]; exact q8
  · rw [h1 _ (by omega) (by omega)]; exact q9
  · rw [h1 _ (by omega) (by omega)]; exact q10
  · rw [h0 _ _ (by omega) (by omega), h0 _ _ (by omega) (by omega), h0 _ _ (by omega) (by omega)]; exact q11 u hu
  · rw [h1 _ (by omega) (by omega)]; exact q12
/-- how a run of the reference ended -/
def yFin (b : Bool) (m : XM) (P : zP) (q : Bool × zS) : Prop := zSi P q.2 ∧ yMr b m P q.2 ∧ gi m 85 30 = (if q.1 then zN 2 else zN 0) ∧ (q.1 = false → yMo m q.2 ∧ zopn q.2 = [])
section YM
variable {N : Nat → Nat} {b : Bool} {P : zP} {K : Nat → Int32}
theorem yc_begins_44 (hN : yN N) : ∀ (d n i : Nat) (m : XM), d < n → i + d = 84 → yR m →
    ∃ m', fX9_begins_44 N n 85 (zN i) m = some m' ∧ (∀ a k, gr m' a k = gr m a k) ∧ (∀ a k, gl m' a k = gl m a k) ∧ (∀ a k, a ≠ 85 → a ≠ 96 → a ≠ 102 → gi m' a k = gi m a k) ∧ (∀ k, k < 27 ∨ 34 ≤ k → gi m' 85 k = gi m 85 k) ∧ (∀ k, 27 ≤ k → k < 34 → gi m' 85 k = zN 0) ∧ (∀ k, gi m' 96 k = if i ≤ k ∧ k < 84 then zN 0 else gi m 96 k) ∧ (∀ k, gi m' 102 k = if i ≤ k ∧ k < 84 then zN 0 else gi m 102 k) := by
  obtain ⟨-, -, -, -, -, -, -, -, -, -, n96, -, -, -, -, -, n102, -⟩ := hN
  intro d
  induction d with
  | zero =>
    intro n i m hn hi hR
    obtain ⟨n, rfl⟩ : ∃ k, n = k + 1 := ⟨n - 1, by omega⟩
    refine ⟨si (si (si (si (si (si (si m 85 27 (zN 0)) 85 28 (zN 0)) 85 29 (zN 0)) 85 30 (zN 0)) 85 31 (zN 0)) 85 32 (zN 0)) 85 33 (zN 0), ?_, fun _ _ => rfl, fun _ _ => rfl, fun a k h1 h2 h3 => ?_, fun k hk => ?_, fun k h1 h2 => ?_, fun k => ?_, fun k => ?_⟩
    · unfold fX9_begins_44
      simp (disch := omega) only [zv, zN_lit, zN_le]
      rw [if_pos (by omega)]
    · rw [gi_ne (by omega), gi_ne (by omega), gi_ne (by omega), gi_ne (by omega), gi_ne (by omega), gi_ne (by omega), gi_ne (by omega)]
    · rw [gi_ne (by omega), gi_ne (by omega), gi_ne (by omega), gi_ne (by omega), gi_ne (by omega), gi_ne (by omega), gi_ne (by omega)]
    · have hc : k = 27 ∨ k = 28 ∨ k = 29 ∨ k = 30 ∨ k = 31 ∨ k = 32 ∨ k = 33 := by omega
      rcases hc with rfl | rfl | rfl | rfl | rfl | rfl | rfl <;> simp (disch := omega) only [gi_si, gi_ne]
    · rw [gi_ne (by omega), gi_ne (by omega), gi_ne (by omega), gi_ne (by omega), gi_ne (by omega), gi_ne (by omega), gi_ne (by omega), if_neg (by omega)]
    · rw [gi_ne (by omega), gi_ne (by omega), gi_ne (by omega), gi_ne (by omega), gi_ne (by omega), gi_ne (by omega), gi_ne (by omega), if_neg (by omega)]
  | succ d ih =>
    intro n i m hn hi hR
    obtain ⟨n, rfl⟩ : ∃ k, n = k + 1 := ⟨n - 1, by omega⟩
    have hR0 := hR
    obtain ⟨-, -, -, -, -, -, -, -, -, -, g20, -, -, -, -, -, g26, -⟩ := hR
    obtain ⟨m', p1, p2, p3, p4, p5, p6, p7, p8⟩ := ih n (i + 1) (si (si m 96 i (zN 0)) 102 i (zN 0)) (by omega) (by omega) hR0
    refine ⟨m', ?_, p2, p3, fun a k h1 h2 h3 => ?_, fun k hk => ?_, p6, fun k => ?_, fun k => ?_⟩
    · unfold fX9_begins_44
      simp (disch := omega) only [zv, zN_lit, zN_le]
      rw [if_neg (by omega)]
      simp (disch := omega) only [zgr g20, zast, zgr_si, zgr g26, yzst, ynar0, zN_add]
      exact p1
    · rw [p4 a k h1 h2 h3, gi_ne (by omega), gi_ne (by omega)]
    · rw [p5 k hk, gi_ne (by omega), gi_ne (by omega)]
    · rw [p7 k]
      by_cases e : k = i
      · subst e; rw [if_neg (by omega), if_pos (by omega), gi_ne (by omega), gi_si]
      · by_cases e2 : i ≤ k ∧ k < 84
        · rw [if_pos (by omega), if_pos e2]
        · rw [if_neg (by omega), if_neg e2, gi_ne (by omega), gi_ne (by omega)]
    · rw [p8 k]
      by_cases e : k = i
      · subst e; rw [if_neg (by omega), if_pos (by omega), gi_si]
      · by_cases e2 : i ≤ k ∧ k < 84
        · rw [if_pos (by omega), if_pos e2]
        · rw [if_neg (by omega), if_neg e2, gi_ne (by omega), gi_ne (by omega)]
theorem yc_begins_2 (hN : yN N) : ∀ (d n i : Nat) (m : XM), d < n → i + d = 7 → yR m →
    ∃ m', fX9_begins_2 N n 85 (zN i) m = some m' ∧ (∀ a k, gr m' a k = gr m a k) ∧ (∀ a k, gl m' a k = gl m a k) ∧ (∀ a k, a ≠ 85 → a ≠ 96 → a ≠ 102 → a ≠ 94 → a ≠ 97 → a ≠ 98 → a ≠ 99 → gi m' a k = gi m a k) ∧ (∀ k, k < 27 ∨ 34 ≤ k → gi m' 85 k = gi m 85 k) ∧ (∀ k, 27 ≤ k → k < 34 → gi m' 85 k = zN 0) ∧ (∀ k, k < 84 → gi m' 96 k = zN 0) ∧ (∀ k, k < 84 → gi m' 102 k = zN 0) ∧ (∀ k, gi m' 94 k = if i ≤ k ∧ k < 7 then zN 0 else gi m 94 k) ∧ (∀ a k, a = 97 ∨ a = 98 ∨ a = 99 → gi m' a k = if i ≤ k ∧ k < 7 then zM else gi m a k) := by
  have hN0 := hN
  obtain ⟨-, -, -, -, -, -, -, -, n94, -, -, n97, n98, n99, -⟩ := hN
  intro d
  induction d with
  | zero =>
    intro n i m hn hi hR
    obtain ⟨n, rfl⟩ : ∃ k, n = k + 1 := ⟨n - 1, by omega⟩
    unfold fX9_begins_2
    have hX := zXF
    revert hX
    generalize XF = nf
    intro hX
    obtain ⟨m', p1, p2, p3, p4, p5, p6, p7, p8⟩ := yc_begins_44 hN0 84 nf 0 m (by omega) (by omega) hR
    refine ⟨m', ?_, p2, p3, fun a k h1 h2 h3 _ _ _ _ => p4 a k h1 h2 h3, p5, p6, fun k hk => ?_, fun k hk => ?_, fun k => ?_, fun a k ha => ?_⟩
    · simp (disch := omega) only [zv, zN_lit, zN_le]
      rw [if_pos (by omega)]
      exact p1
    · rw [p7, if_pos (by omega)]
    · rw [p8, if_pos (by omega)]
    · rw [p4 _ _ (by omega) (by omega) (by omega), if_neg (by omega)]
    · rw [p4 _ _ (by omega) (by omega) (by omega), if_neg (by omega)]
  | succ d ih =>
    intro n i m hn hi hR
    obtain ⟨n, rfl⟩ : ∃ k, n = k + 1 := ⟨n - 1, by omega⟩
    have hR0 := hR
    obtain ⟨-, -, -, -, -, -, -, -, g18, -, -, g21, g22, g23, -⟩ := hR
    obtain ⟨m', p1, p2, p3, p4, p5, p6, p7, p8, p9, p10⟩ := ih n (i + 1) (si (si (si (si m 94 i (zN 0)) 97 i zM) 98 i zM) 99 i zM) (by omega) (by omega) hR0
    refine ⟨m', ?_, p2, p3, fun a k h1 h2 h3 h4 h5 h6 h7 => ?_, fun k hk => ?_, p6, p7, p8, fun k => ?_, fun a k ha => ?_⟩
    · unfold fX9_begins_2
      generalize XF = nf
      simp (disch := omega) only [zv, zN_lit, zN_le]
      rw [if_neg (by omega)]
      simp (disch := omega) only [zgr g18, zast, zgr_si, zgr g21, zgr g22, zgr g23, zneg, zN_add]
      exact p1
    · rw [p4 a k h1 h2 h3 h4 h5 h6 h7, gi_ne (by omega), gi_ne (by omega), gi_ne (by omega), gi_ne (by omega)]
    · rw [p5 k hk, gi_ne (by omega), gi_ne (by omega), gi_ne (by omega), gi_ne (by omega)]
    · rw [p9 k]
      by_cases e : k = i
      · subst e; rw [if_neg (by omega), if_pos (by omega), gi_ne (by omega), gi_ne (by omega), gi_ne (by omega), gi_si]
      · by_cases e2 : i ≤ k ∧ k < 7
        · rw [if_pos (by omega), if_pos e2]
        · rw [if_neg (by omega), if_neg e2, gi_ne (by omega), gi_ne (by omega), gi_ne (by omega), gi_ne (by omega)]
    · rw [p10 a k ha]
      by_cases e : k = i
      · subst e
        rw [if_neg (by omega), if_pos (by omega)]
        rcases ha with rfl | rfl | rfl <;> simp (disch := omega) only [gi_si, gi_ne]
      · by_cases e2 : i ≤ k ∧ k < 7
        · rw [if_pos (by omega), if_pos e2]
        · rw [if_neg (by omega), if_neg e2, gi_ne (by omega), gi_ne (by omega), gi_ne (by omega), gi_ne (by omega)]
/-- a run begins -/
theorem yc_begins {m : XM} {p : Nat} (hU : yU N m P) (hp : gi m 85 34 = zN p) (hp10 : p ≤ 10) (hb : gi m 85 41 = (if b then zN 1 else zN 0)) :
    ∃ m', fX9_begins N 85 m = some m' ∧ yfq m m' ∧ yMR b m' P (zInit p) := by
  obtain ⟨hN, hR, hwf, -⟩ := hU
  unfold fX9_begins
  have hX := zXF
  revert hX
  generalize XF = nf
  intro hX
  obtain ⟨m', p1, p2, p3, p4, p5, p6, p7, p8, p9, p10⟩ := yc_begins_2 hN 7 nf 0 m (by omega) (by omega) hR
  refine ⟨m', by simp only [zN_lit]; exact p1, ⟨fun a k h => p4 a k (by omega) (by omega) (by omega) (by omega) (by omega) (by omega) (by omega), fun k h => p5 k (by omega), p3, p2⟩, ?_, ⟨fun u hu => ?_, fun x hx => ?_, fun x hx => ?_, ?_, trivial, ?_, ?_, ?_, ?_, ?_, fun u hu => ?_, ?_, fun _ => trivial⟩, ⟨?_, trivial⟩, ?_⟩
  · exact ⟨fun _ => Nat.zero_le _, Nat.zero_le _, fun x hx => (by cases hx), Nat.zero_le _, Nat.zero_le _, Nat.zero_le _, hp10, by show 0 + zfree (fun _ => 0) ≤ 7; decide, fun q hq => (by cases hq)⟩
  · rw [p9, if_pos (by omega)]; rfl
  · rw [p7 _ (zmid_lt hwf hx)]; rfl
  · rw [p8 _ (zmid_lt hwf hx)]; exact ⟨fun g => (by cases g), fun _ => rfl⟩
  · rw [p6 _ (by omega) (by omega)]; rfl
  · rw [p6 _ (by omega) (by omega)]; rfl
  · rw [p6 _ (by omega) (by omega)]; rfl
  · rw [p6 _ (by omega) (by omega)]; rfl
  · rw [p6 _ (by omega) (by omega)]; rfl
  · rw [p5 _ (by omega)]; exact hp
  · rw [p10 _ _ (by omega), p10 _ _ (by omega), p10 _ _ (by omega), if_pos (by omega), if_pos (by omega), if_pos (by omega)]
    exact ⟨fun g => (by cases g), fun _ => ⟨rfl, rfl, rfl⟩⟩
  · rw [p5 _ (by omega)]; exact hb
  · rw [p6 _ (by omega) (by omega)]; rfl
  · rw [p6 _ (by omega) (by omega)]
theorem yMo_sp {m : XM} {s : zS} {w : Nat} (h : yMo m s) : yMo m (zs_sp s w) := h
/-- the steps -/
theorem yc_main_5 (hw : zwf P) : ∀ (l : List zDeed) (n : Nat) (pre : List zDeed) (m : XM) (s : zS), l.length < n → zstp P = pre ++ l → zsp s = pre.length → yW N K m P → yMR b m P s → zopn s = [] →
    ∃ m', fX9_goesMain_5 N n 85 m = some m' ∧ yfq m m' ∧ yFin b m' P (zSteps P l s) := by
  intro l
  induction l with
  | nil =>
    intro n pre m s hn hl hp hW h ho
    obtain ⟨n, rfl⟩ : ∃ k, n = k + 1 := ⟨n - 1, by simp at hn; omega⟩
    obtain ⟨⟨⟨-, -, n88, -⟩, ⟨-, -, g9, -⟩, -, ⟨-, -, h4, -⟩⟩, -⟩ := id hW
    have h34 := h.2.1.2.2.2.2.2.2.2.2.2.1
    have hle := hw.2.2.2.1
    have hpl : pre.length = (zstp P).length := by rw [hl]; simp
    refine ⟨m, ?_, yfq_rf m, h.1, h.2.1, h.2.2.2, fun _ => ⟨h.2.2.1, ho⟩⟩
    unfold fX9_goesMain_5
    simp (disch := omega) only [zv, h34, zgr g9, zN_lit, zald, h4, zN_le]
    rw [if_pos (by omega)]
  | cons d l ih =>
    intro n pre m s hn hl hp hW h ho
    simp only [List.length_cons] at hn
    obtain ⟨n, rfl⟩ : ∃ k, n = k + 1 := ⟨n - 1, by omega⟩
    obtain ⟨⟨⟨-, -, n88, -⟩, ⟨-, -, g9, -⟩, -, ⟨-, -, h4, -, -, hsteps⟩⟩, hK⟩ := id hW
    have h34 := h.2.1.2.2.2.2.2.2.2.2.2.1
    have hle := hw.2.2.2.1
    have hlen : (zstp P).length = pre.length + (l.length + 1) := by rw [hl]; simp
    have hget : (zstp P)[pre.length]? = some d := by rw [hl]; simp
    obtain ⟨j, hj1, hj2⟩ := hsteps _ _ hget
    rw [hK] at hj2
    have hdk := hw.2.2.2.2 d (by rw [hl]; simp)
    obtain ⟨iT, iC⟩ := zI_L hw 20
    obtain ⟨oT, oC⟩ := zKo_L P 20
    obtain ⟨sT, sC⟩ := zKs_L P 20
    rw [hp] at h34
    have hm0 : yMR b (si m 85 30 (zN 0)) P s := ⟨h.1, yMr_op (by omega) h.2.1, yMo_si h.2.2.1 (by omega) (by omega) (by omega), gi_si _ _ _ _⟩
    have f0 : yfq m (si m 85 30 (zN 0)) := yfq_si (yfq_rf m)
    have hW0 := yW_q hW f0
    have hI : zSi P (zDo P (zL P 20).1 (zL P 20).2 d s).2.2 := (zI_do hw iT iC oT oC hdk h.1 (by rw [ho]; rfl)).1
    have hS : zsq (zDo P (zL P 20).1 (zL P 20).2 d s).2.2 = zsq s := zKs_do sT sC d s
    have hO := zKo_do (P := P) oT oC d s
    have hQ := yg_act (N := N) (b := b) (K := K) hw (si m 85 30 (zN 0)) s j d hj2 hdk hW0 hm0 (by rw [ho]; rfl)
    have h30 := h.2.2.2
    unfold fX9_goesMain_5 fX9_goesMain_74
    simp (disch := omega) only [zv, h34, zgr g9, zN_lit, zald, h4, zN_le, h30, zN_eq, Nat.reduceEqDiff, if_false, zgr_si, gi_ne, zN_add, hj1]
    rw [if_neg (by omega)]
    have hst := zSteps_c P d l s
    generalize zDo P (zL P 20).1 (zL P 20).2 d s = res at hI hS hO hQ hst
    obtain ⟨v, m1, q1, q2, -⟩ := hQ
    rw [q1]
    simp only [Option.map_some, zcv]
    have hW1 := yW_q hW0 q2.1
    have hs1 : zsp res.2.2 = pre.length := (congrArg Prod.fst hS).trans hp
    have hl' : zstp P = (pre ++ [d]) ++ l := by rw [hl]; simp
    have hfin : ∀ (m2 : XM) (s2 : zS), yfq m m2 → yW N K m2 P → yMR b m2 P s2 → zopn s2 = [] → zsp s2 = pre.length → ∃ m', (fX9_goesMain_5 N n 85 (si m2 85 34 (gi m2 85 34 + zN 1))) = some m' ∧ yfq m m' ∧ yFin b m' P (zSteps P l (zs_sp s2 (zsp s2 + 1))) := by
      intro m2 s2 f2 hU2 hR2 ho2 hp2
      have h16' := hR2.2.1.2.2.2.2.2.2.2.2.2.1
      rw [h16', zN_add]
      have f3 : yfq m2 (si m2 85 34 (zN (zsp s2 + 1))) := yfq_si (yfq_rf m2)
      obtain ⟨m', w1, w2, w3⟩ := ih n (pre ++ [d]) (si m2 85 34 (zN (zsp s2 + 1))) (zs_sp s2 (zsp s2 + 1)) (by omega) hl' (by show zsp s2 + 1 = _; simp; omega) (yW_q hU2 f3) ⟨zSi_sp hR2.1 (by omega), yMr_sp hR2.2.1, yMo_si hR2.2.2.1 (by omega) (by omega) (by omega), by rw [gi_ne (by omega)]; exact hR2.2.2.2⟩ ho2
      exact ⟨m', w1, yfq_tr f2 (yfq_tr f3 w2), w3⟩
    have hc : res.1 = 0 ∨ res.1 = 1 ∨ res.1 = 2 := by have := q2.2.1; omega
    rcases hc with e | e | e
    · obtain ⟨p2, p3, p4⟩ := q2.2.2.1 e
      rw [if_neg (by omega), if_neg (by omega)] at hst
      rw [hst]
      have hne : ¬ (0 : Nat) = 1 := by omega
      simp (disch := omega) only [p4, zN_eq, hne, if_false]
      exact hfin m1 res.2.2 (yfq_tr f0 q2.1) hW1 ⟨hI, p2, p3, p4⟩ ((hO (by omega)).trans ho) hs1
    · obtain ⟨p2, p3, -, p4⟩ := q2.2.2.2.1 e
      rw [if_neg (by omega), if_pos e] at hst
      rw [hst]
      have ho1 : zopn res.2.2 = [] := (hO (by omega)).trans ho
      have g33 := p2.2.2.2.2.2.2.2.2.1
      simp (disch := omega) only [p4, if_true, g33, zN_add]
      have f3 : yfq m1 (si (si m1 85 33 (zN (zfs res.2.2 + 1))) 85 30 (zN 0)) := yfq_si (yfq_si (yfq_rf m1))
      exact hfin (si (si m1 85 33 (zN (zfs res.2.2 + 1))) 85 30 (zN 0)) (zs_fs res.2.2 (zfs res.2.2 + 1)) (yfq_tr (yfq_tr f0 q2.1) f3) (yW_q hW1 f3) ⟨hI, yMr_op (by omega) (yMr_fs p2), yMo_si (yMo_si p3 (by omega) (by omega) (by omega)) (by omega) (by omega) (by omega), gi_si _ _ _ _⟩ ho1 hs1
    · obtain ⟨p2, p4⟩ := q2.2.2.2.2 e
      rw [if_pos e] at hst
      rw [hst]
      have g34 := p2.2.2.2.2.2.2.2.2.2.1
      have hne : ¬ (2 : Nat) = 1 := by omega
      simp (disch := omega) only [p4, zN_eq, hne, if_false, g34, zN_add]
      obtain ⟨n, rfl⟩ : ∃ k, n = k + 1 := ⟨n - 1, by omega⟩
      have f3 : yfq m1 (si m1 85 34 (zN (zsp res.2.2 + 1))) := yfq_si (yfq_rf m1)
      obtain ⟨⟨-, ⟨-, -, g9', -⟩, -, ⟨-, -, h4', -⟩⟩, -⟩ := yW_q hW1 f3
      refine ⟨si m1 85 34 (zN (zsp res.2.2 + 1)), ?_, yfq_tr (yfq_tr f0 q2.1) f3, zSi_sp hI (by omega), yMr_sp p2, ?_, fun g => (by cases g)⟩
      · unfold fX9_goesMain_5
        simp (disch := omega) only [zv, gi_si, zgr g9', zN_lit, zald, h4', zN_le, gi_ne, p4, if_true, ite_self]
      · rw [gi_ne (by omega)]; exact p4
theorem yc_main (hw : zwf P) {m : XM} {s : zS} (hW : yW N K m P) (h : yMR b m P s) (ho : zopn s = []) : ∃ m', fX9_goesMain N 85 m = some m' ∧ yfq m m' ∧ yFin b m' P (zMain P s) := by
  unfold fX9_goesMain
  have hX := zXF
  revert hX
  generalize XF = nf
  intro hX
  have f3 : yfq m (si m 85 34 (zN 0)) := yfq_si (yfq_rf m)
  have hle := hw.2.2.2.1
  obtain ⟨m', w1, w2, w3⟩ := yc_main_5 (N := N) (b := b) (K := K) hw (zstp P) nf [] (si m 85 34 (zN 0)) (zs_sp s 0) (by omega) rfl rfl (yW_q hW f3) ⟨zSi_sp h.1 (by omega), yMr_sp h.2.1, yMo_si h.2.2.1 (by omega) (by omega) (by omega), by rw [gi_ne (by omega)]; exact h.2.2.2⟩ ho
  refine ⟨m', ?_, yfq_tr f3 w2, w3⟩
  simp only [zv, zN_lit]
  exact w1
end YM
