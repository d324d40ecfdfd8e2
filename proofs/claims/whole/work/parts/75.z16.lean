/-! ===== z: the class's plain run, its run ahead, what it tells ===== -/
section ZY
variable {N : Nat → Nat} {t : Bool} {r c : Nat} {P : zP}
theorem zc_runPlainly {m : XM} {c0 p : Nat} (hUN : zUN N c) (hRN : zRN N r) (hdis : c + 18 ≤ r) (hwf : zwf P) (hUr : zUr m c) (hCP : zCP m c P) (hRr : zRr m r c0) (hp : gi m r 16 = zN p) (hp10 : p ≤ 10) :
    ∃ m', fX2_runPlainly N r c m = some m' ∧ zfr r (r + 13) m m' ∧ zU N m' r c P ∧ zFin t m' r P (zPlain P) ∧ gi m' (r + 11) 0 = gi m (r + 11) 0 := by
  obtain ⟨m1, a1, a2, a3, a4, a5⟩ := zc_reset (t := t) hUN hRN hdis hwf hUr hCP hRr hp hp10
  obtain ⟨m2, b1, b2, b3⟩ := zc_runMain hwf a3 a4 rfl
  refine ⟨m2, ?_, zfr_tr a2 b2.1, zU_q a3 b2, ?_, ?_⟩
  · unfold fX2_runPlainly
    simp only [a1, zcv, b1]
  · have e : zMain P (zInit p) = zPlain P := rfl
    rw [← e]; exact b3
  · rw [b2.2.2]; exact a5 0
theorem zc_mainOver (hw : zwf P) {m : XM} {s : zS} (hU : zU N m r c P) (hs : zSi P s) (h : zCr t m r P s) (h15 : gi m r 15 = zN 1) : ∃ m', fX2_runMain N r m = some m' ∧ zfq r m m' ∧ zFin t m' r P (true, zs_sp s 0) := by
  unfold fX2_runMain
  have hX := zXF
  revert hX
  generalize XF = nf
  intro hX
  obtain ⟨n, rfl⟩ : ∃ k, nf = k + 1 := ⟨nf - 1, by omega⟩
  have f3 : zfq r m (si m r 16 (zN 0)) := zfq_si (zfq_rf r m) (by omega) (by omega)
  have hU3 := zU_q hU f3
  obtain ⟨-, -, -, -, -, ⟨-, hd2', -⟩, ⟨g0', -⟩⟩ := hU3
  refine ⟨si m r 16 (zN 0), ?_, f3, zSi_sp hs (by omega), zCr_sp h, ?_, fun g => (by cases g)⟩
  · unfold fX2_runMain_5
    simp (disch := omega) only [zv, zN_lit, gi_si, zgr g0', hd2', gi_ne, h15, zN10, if_false, ite_self]
  · rw [gi_ne (by omega)]; exact h15
theorem zc_runAhead_7 (hw : zwf P) {q : Nat} {full : List Nat} (hq : r + 13 ≤ q) (hNq : N q = 7) (hfl : full.length = zn P) (hfu : ∀ u ∈ full, u < zn P) : ∀ (l : List Nat) (n : Nat) (pre : List Nat) (m : XM) (s : zS), l.length < n → full = pre ++ l → (∀ i u, full[i]? = some u → gi m q i = zN u) → zU N m r c P → zCR t m r P s → zopn s = [] →
    ∃ m', fX2_runAhead_7 N n r q (zN pre.length) m = some m' ∧ zfq r m m' ∧ zFin t m' r P (if (zTouches P l s).1 then (true, zs_sp (zTouches P l s).2 0) else zMain P (zTouches P l s).2) := by
  intro l
  induction l with
  | nil =>
    intro n pre m s hn hl hrow hU h ho
    obtain ⟨n, rfl⟩ : ∃ k, n = k + 1 := ⟨n - 1, by simp at hn; omega⟩
    have hz := hw.1
    have hpl : pre.length = zn P := by rw [← hfl, hl]; simp
    have hd1 := hU.2.2.2.2.2.1.1
    have g0 := hU.2.2.2.2.2.2.1
    obtain ⟨m', w1, w2, w3⟩ := zc_runMain hw hU h ho
    refine ⟨m', ?_, w2, w3⟩
    unfold fX2_runAhead_7
    simp (disch := omega) only [zv, zgr g0, hd1, zN_le]
    rw [if_pos (by omega), w1]
    rfl
  | cons u l ih =>
    intro n pre m s hn hl hrow hU h ho
    simp only [List.length_cons] at hn
    obtain ⟨n, rfl⟩ : ∃ k, n = k + 1 := ⟨n - 1, by omega⟩
    have hz := hw.1
    have hpl : pre.length + (l.length + 1) = zn P := by rw [← hfl, hl]; simp
    have hd1 := hU.2.2.2.2.2.1.1
    have g0 := hU.2.2.2.2.2.2.1
    have hu : u < zn P := hfu u (by rw [hl]; simp)
    have hgu := hrow pre.length u (by rw [hl]; simp)
    have h15 := h.2.2.2.2
    obtain ⟨iT, iC⟩ := zI_L hw 20
    obtain ⟨oT, oC⟩ := zKo_L P 20
    have hI : zSi P ((zL P 20).1 u s).2.2 := (iT u s hu h.1 (by rw [ho]; rfl)).1
    have hO := oT u s
    have hQ := zg_touch (N := N) (t := t) (r := r) (c := c) hw m s u hu hU h (by rw [ho]; rfl)
    have hst : zTouches P (u :: l) s = if ((zL P 20).1 u s).1 = 2 then (true, ((zL P 20).1 u s).2.2) else zTouches P l ((zL P 20).1 u s).2.2 := rfl
    have e7 : Int32.ofNat (N q) = zN 7 := by rw [hNq]; rfl
    unfold fX2_runAhead_7
    simp (disch := omega) only [zv, zgr g0, hd1, zN_le, e7, h15, zN_lit, if_true, zald, hgu]
    rw [if_neg (by omega), if_neg (by omega)]
    generalize (zL P 20).1 u s = res at hI hO hQ hst
    obtain ⟨b, m1, q1, q2, q3, q4, q5, q6⟩ := hQ
    have hU1 := zU_q hU q2
    have hl' : full = (pre ++ [u]) ++ l := by rw [hl]; simp
    have hrow1 : ∀ i u, full[i]? = some u → gi m1 q i = zN u := fun i v hv => by rw [(q2.1 q (by omega)).1]; exact hrow i v hv
    have epl : pre.length + 1 = (pre ++ [u]).length := by simp
    simp only [q1, zca, zN_add]
    have hc : res.1 = 0 ∨ res.1 = 1 ∨ res.1 = 2 := by omega
    rcases hc with e | e | e
    · obtain ⟨-, p2, p3, -, -⟩ := q4 e
      rw [if_neg (by omega)] at hst
      rw [hst, epl]
      obtain ⟨m', w1, w2, w3⟩ := ih n (pre ++ [u]) m1 res.2.2 (by omega) hl' hrow1 hU1 ⟨hI, p2, p3⟩ ((hO (by omega)).trans ho)
      exact ⟨m', w1, zfq_tr q2 w2, w3⟩
    · obtain ⟨-, p2, p3⟩ := q5 e
      rw [if_neg (by omega)] at hst
      have ho1 : zopn res.2.2 = [] := (hO (by omega)).trans ho
      rw [ho1] at p2 p3
      have eU : zUn [] res.2.2 = res.2.2 := zs_opn_id ho1
      rw [eU] at p2 p3
      rw [hst, epl]
      obtain ⟨m', w1, w2, w3⟩ := ih n (pre ++ [u]) m1 res.2.2 (by omega) hl' hrow1 hU1 ⟨hI, p2, p3⟩ ho1
      exact ⟨m', w1, zfq_tr q2 w2, w3⟩
    · obtain ⟨-, p2, p3⟩ := q6 e
      rw [if_pos e] at hst
      rw [hst]
      obtain ⟨m', w1, w2, w3⟩ := zc_mainOver hw hU1 hI p2 p3
      refine ⟨m', ?_, zfq_tr q2 w2, w3⟩
      obtain ⟨n, rfl⟩ : ∃ k, n = k + 1 := ⟨n - 1, by omega⟩
      have hd1' := hU1.2.2.2.2.2.1.1
      have g0' := hU1.2.2.2.2.2.2.1
      unfold fX2_runAhead_7
      simp (disch := omega) only [zv, zgr g0', hd1', e7, p3, zN_lit, zN10, if_false, w1, zcv, ite_self]
theorem zc_runAhead {q : Nat} {full : List Nat} {m : XM} {c0 p : Nat} (hUN : zUN N c) (hRN : zRN N r) (hdis : c + 18 ≤ r) (hwf : zwf P) (hUr : zUr m c) (hCP : zCP m c P) (hRr : zRr m r c0) (hp : gi m r 16 = zN p) (hp10 : p ≤ 10) (hq : r + 13 ≤ q) (hNq : N q = 7) (hfl : full.length = zn P) (hfu : ∀ u ∈ full, u < zn P) (hrow : ∀ i u, full[i]? = some u → gi m q i = zN u) :
    ∃ m', fX2_runAhead N r c q m = some m' ∧ zfr r (r + 13) m m' ∧ zU N m' r c P ∧ zFin t m' r P (zAhead P p full) ∧ gi m' (r + 11) 0 = gi m (r + 11) 0 := by
  obtain ⟨m1, a1, a2, a3, a4, a5⟩ := zc_reset (t := t) hUN hRN hdis hwf hUr hCP hRr hp hp10
  unfold fX2_runAhead
  have hX := zXF
  revert hX
  generalize XF = nf
  intro hX
  have hz := hwf.1
  obtain ⟨m2, b1, b2, b3⟩ := zc_runAhead_7 (N := N) (t := t) (r := r) (c := c) hwf hq hNq hfl hfu full nf [] m1 (zInit p) (by omega) rfl (fun i u hu => by rw [(a2 q (by omega)).1]; exact hrow i u hu) a3 a4 rfl
  refine ⟨m2, ?_, zfr_tr a2 b2.1, zU_q a3 b2, b3, ?_⟩
  · simp only [a1, zcv, zN_lit]
    exact b1
  · rw [b2.2.2]; exact a5 0
/-- how many of the first n units have the state w -/
def zcs (st : Nat → Nat) (w : Nat) : Nat → Nat
  | 0 => 0
  | n + 1 => zcs st w n + if st n = w then 1 else 0
theorem zcs_s (st : Nat → Nat) (w n : Nat) : zcs st w (n + 1) = zcs st w n + if st n = w then 1 else 0 := rfl
theorem zcs_0 (st : Nat → Nat) (w : Nat) : zcs st w 0 = 0 := rfl
theorem zcs_le (st : Nat → Nat) (w : Nat) : ∀ n, zcs st w n ≤ n
  | 0 => Nat.le_refl _
  | n + 1 => by
    have := zcs_le st w n
    unfold zcs
    split <;> omega
theorem zc_count (hw : zwf P) {m : XM} {s : zS} {w : Nat} (hU : zU N m r c P) (h3 : ∀ u, zst s u ≤ 3) (h : zCr t m r P s) (hw3 : w ≤ 3) : ∀ (d n i : Nat), d < n → i + d = zn P → fX2_countState_4 N n r (zN w) (zN (zcs (zst s) w i)) (zN i) m = some (zN (zcs (zst s) w (zn P)), m) := by
  obtain ⟨-, ⟨n1, -⟩, hdis, hwf, -, ⟨hd1, -⟩, ⟨g0, g1, -⟩⟩ := hU
  have hz := hwf.1
  intro d
  induction d with
  | zero =>
    intro n i hn hi
    obtain ⟨n, rfl⟩ : ∃ k, n = k + 1 := ⟨n - 1, by omega⟩
    unfold fX2_countState_4
    simp (disch := omega) only [zv, zgr g0, hd1, zN_le]
    rw [if_pos (by omega), show i = zn P by omega]
  | succ d ih =>
    intro n i hn hi
    obtain ⟨n, rfl⟩ : ∃ k, n = k + 1 := ⟨n - 1, by omega⟩
    have hs := h.1 i (by omega)
    have := h3 i
    unfold fX2_countState_4 fX2_countState_28
    simp (disch := omega) only [zv, zgr g0, hd1, zN_le, zgr g1, zald, hs, zN_eq, zN_lit, zN_add]
    rw [if_neg (by omega)]
    have hi1 := ih n (i + 1) (by omega) (by omega)
    rw [zcs_s] at hi1
    by_cases e : zst s i = w
    · rw [if_pos e] at hi1 ⊢
      exact hi1
    · rw [if_neg e] at hi1 ⊢
      exact hi1
def zTell (P : zP) (q : Bool × zS) (w : Nat) : Nat :=
  if w = 0 then (zsur q.2).length else if w = 1 then zlos q.2 else if w = 2 then zfs q.2 else if w = 3 then (zbeg q.2).length else if w = 4 then zcs (zst q.2) 2 (zn P) else if w = 5 then zcs (zst q.2) 3 (zn P) else if w = 6 then zwk q.2 else if q.1 then 1 else 0
theorem zc_tally (hw : zwf P) {m : XM} {q : Bool × zS} {w : Nat} (hU : zU N m r c P) (h : zFin t m r P q) (hw7 : w ≤ 7) : fX2_tally N r (zN w) m = some (zN (zTell P q w), m) := by
  obtain ⟨hs, hC, h15, -⟩ := h
  obtain ⟨q1, q2, q3, q4, q5, q6, q7, q8, q9, q10, -⟩ := id hC
  have hz := hw.1
  unfold fX2_tally fX2_countState zTell
  have hX := zXF
  revert hX
  generalize XF = nf
  intro hX
  have k2 := zc_count (N := N) (w := 2) hw hU hs.1 hC (by omega) (zn P) nf 0 (by omega) (by omega)
  have k3 := zc_count (N := N) (w := 3) hw hU hs.1 hC (by omega) (zn P) nf 0 (by omega) (by omega)
  rw [zcs_0] at k2 k3
  simp (disch := omega) only [zv, zN_lit, zN_eq, q4, q6, q7, q8, q9, h15]
  have hc : w = 0 ∨ w = 1 ∨ w = 2 ∨ w = 3 ∨ w = 4 ∨ w = 5 ∨ w = 6 ∨ w = 7 := by omega
  rcases hc with e | e | e | e | e | e | e | e <;> subst e <;> simp only [Nat.reduceEqDiff, if_true, if_false]
  · rw [k2]; rfl
  · rw [k3]; rfl
  · cases q.1 <;> simp only [if_true, if_false, Bool.false_eq_true, zN10]
end ZY
