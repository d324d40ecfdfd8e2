/-! ===== z: the class's run: failures, beginnings, surprises ===== -/
theorem zsub1 (n : Nat) : zN n - zN 1 = if n = 0 then zM else zN (n - 1) := by
  by_cases h : n = 0
  · rw [h, if_pos rfl, zN_sub01]
  · rw [if_neg h, zN_sub (by omega)]
theorem zc_failAll {N : Nat → Nat} {t : Bool} {r c : Nat} {P : zP} {m : XM} {s : zS} (b : Nat) (v : Int32) (hU : zU N m r c P) (h : zCR t m r P s) :
    ∃ m', fX2_failAll N r (zN b) v m = some (zN 0, m') ∧ zfq r m m' ∧ zCR t m' r P (zUn (zopn s) (zs_fl s (b, v, 0))) := by
  obtain ⟨hSi, hC, h7, hst, h15⟩ := h
  obtain ⟨a1, a2, a3, a4⟩ := hSi
  unfold fX2_failAll
  have hX := zXF
  revert hX
  generalize XF = nf
  intro hX
  obtain ⟨m', p1, p2, p3⟩ := zc_failAll_10 (b := b) (v := v) (zopn s) nf m (zs_fl s (b, v, 0)) (by omega) a2 a3 hU ⟨a1, a2, a3, a4⟩ hC h15 hst rfl rfl (by show 0 + _ ≤ 20; omega)
  refine ⟨m', ?_, p2, p3⟩
  simp only [zv, h7, zN_lit, zsub1]
  exact p1
theorem zc_noteBegun_41 {N : Nat → Nat} {r c : Nat} {P : zP} {u : Nat} (hu : u < zn P) : ∀ (d n x : Nat) (m : XM), d < n → x + d = 12 * u + zcnt P u → 12 * u ≤ x → zU N m r c P →
    ∃ m', fX2_noteBegun_41 N n r (zN u) (zN x) m = some m' ∧ zfq r m m' ∧ (∀ a k, a ≠ r + 3 → gi m' a k = gi m a k) ∧ ∀ k, gi m' (r + 3) k = if x ≤ k ∧ k < 12 * u + zcnt P u then zN 0 else gi m (r + 3) k := by
  intro d
  induction d with
  | zero =>
    intro n x m hn hx hl hU
    obtain ⟨n, rfl⟩ : ∃ k, n = k + 1 := ⟨n - 1, by omega⟩
    obtain ⟨⟨u1, u2, u3, -⟩, -, -, hwf, ⟨-, -, r3, -⟩, ⟨-, -, hd, -⟩, ⟨g0, -⟩⟩ := hU
    have h7 := hwf.1
    have hc := (hwf.2.1 u hu).1
    have hcn := (hd u hu).2.2
    refine ⟨m, ?_, zfq_rf r m, fun _ _ _ => rfl, fun k => ?_⟩
    · unfold fX2_noteBegun_41
      simp (disch := omega) only [zv, zN_lit, zN_mul, zgr g0, zgr r3, zald, hcn, zN_add, zN_le]
      rw [if_pos (by omega)]
    · rw [if_neg (by omega)]
  | succ d ih =>
    intro n x m hn hx hl hU
    obtain ⟨n, rfl⟩ : ∃ k, n = k + 1 := ⟨n - 1, by omega⟩
    have hU0 := hU
    obtain ⟨⟨u1, u2, u3, -⟩, ⟨n1, n2, n3, -⟩, -, hwf, ⟨-, -, r3, -⟩, ⟨-, -, hd, -⟩, ⟨g0, g1, g2, g3, -⟩⟩ := hU
    have h7 := hwf.1
    have hc := (hwf.2.1 u hu).1
    have hcn := (hd u hu).2.2
    have hfq : zfq r m (si m (r + 3) x (zN 0)) := zfq_si (zfq_rf r m) (by omega) (by omega)
    obtain ⟨m', p1, p2, p3, p4⟩ := ih n (x + 1) (si m (r + 3) x (zN 0)) (by omega) (by omega) (by omega) (zU_q hU0 hfq)
    refine ⟨m', ?_, zfq_tr hfq p2, fun a k ha => ?_, fun k => ?_⟩
    · unfold fX2_noteBegun_41
      simp (disch := omega) only [zv, zN_lit, zN_mul, zgr g0, zgr r3, zald, hcn, zN_add, zN_le]
      rw [if_neg (by omega)]
      simp (disch := omega) only [zgr g3, zast]
      exact p1
    · rw [p3 a k ha, gi_ne (by omega)]
    · rw [p4 k]
      by_cases e : k = x
      · subst e
        rw [if_neg (by omega), gi_si, if_pos (by omega)]
      · rw [gi_ne (by omega)]
        by_cases e2 : x ≤ k ∧ k < 12 * u + zcnt P u
        · rw [if_pos (by omega), if_pos e2]
        · rw [if_neg (by omega), if_neg e2]
theorem zc_noteBegun {N : Nat → Nat} {r c : Nat} {P : zP} {m : XM} {u b : Nat} (hu : u < zn P) (hU : zU N m r c P) (hb : gi m r 4 = zN b) (hb7 : b < 7) :
    ∃ m', fX2_noteBegun N r (zN u) m = some m' ∧ zfq r m m' ∧ (∀ a k, a ≠ r + 1 → a ≠ r + 3 → a ≠ r + 4 → ¬ (a = r ∧ k = 4) → gi m' a k = gi m a k) ∧ gi m' r 4 = zN (b + 1) ∧ gi m' (r + 1) u = zN 1 ∧ (∀ k, k ≠ u → gi m' (r + 1) k = gi m (r + 1) k) ∧ gi m' (r + 4) b = zN u ∧ (∀ k, k ≠ b → gi m' (r + 4) k = gi m (r + 4) k) ∧ ∀ k, gi m' (r + 3) k = if 12 * u ≤ k ∧ k < 12 * u + zcnt P u then zN 0 else gi m (r + 3) k := by
  have hU0 := hU
  obtain ⟨-, ⟨n1, n2, n3, n4, -⟩, -, hwf, -, -, ⟨g0, g1, g2, g3, g5, -⟩⟩ := hU
  have h7 := hwf.1
  have hc := (hwf.2.1 u hu).1
  have hfq : zfq r m (si (si (si m (r + 1) u (zN 1)) (r + 4) b (zN u)) r 4 (zN (b + 1))) := zfq_si (zfq_si (zfq_si (zfq_rf r m) (by omega) (by omega)) (by omega) (by omega)) (by omega) (by omega)
  unfold fX2_noteBegun fX2_noteBegun_36
  have hX := zXF
  revert hX
  generalize XF = nf
  intro hX
  obtain ⟨m', p1, p2, p3, p4⟩ := zc_noteBegun_41 (N := N) (r := r) (c := c) (P := P) hu (zcnt P u) nf (12 * u) _ (by omega) rfl (Nat.le_refl _) (zU_q hU0 hfq)
  refine ⟨m', ?_, zfq_tr hfq p2, fun a k h1 h2 h3 h4 => ?_, ?_, ?_, fun k hk => ?_, ?_, fun k hk => ?_, fun k => ?_⟩
  · simp (disch := omega) only [zv, zgr g1, zN_lit, zast, gi_ne, hb, zN_le]
    rw [if_neg (by omega)]
    simp (disch := omega) only [zgr_si, zgr g5, zast, gi_ne, hb, zN_add, zN_mul]
    rw [Nat.mul_comm u 12]
    exact p1
  · rw [p3 a k h2, gi_ne (by omega), gi_ne (by omega), gi_ne (by omega)]
  · rw [p3 _ _ (by omega), gi_si]
  · rw [p3 _ _ (by omega), gi_ne (by omega), gi_ne (by omega), gi_si]
  · rw [p3 _ _ (by omega), gi_ne (by omega), gi_ne (by omega), gi_ne (by omega)]
  · rw [p3 _ _ (by omega), gi_ne (by omega), gi_si]
  · rw [p3 _ _ (by omega), gi_ne (by omega), gi_ne (by omega), gi_ne (by omega)]
  · rw [p4 k, gi_ne (by omega), gi_ne (by omega), gi_ne (by omega)]
theorem zstk_cp {m m' : XM} {a b : Nat} : ∀ {l : List Nat}, (∀ i, i < l.length → gi m' b i = gi m a i) → zstk m a l → zstk m' b l
  | [], _, _ => trivial
  | _ :: l, h0, h => ⟨by rw [h0 _ (by simp)]; exact h.1, zstk_cp (fun i hi => h0 i (by simp; omega)) h.2⟩
theorem zc_keep_54 {N : Nat → Nat} {r n0 : Nat} (hn : n0 ≤ 20) (n9 : N (r + 9) = 20) (n12 : N (r + 12) = 20) : ∀ (d n x : Nat) (m : XM), d < n → x + d = n0 → gi m (r + 11) 1 = zN n0 → gr m (r + 11) 2 = some (r + 12) → gr m r 8 = some (r + 9) →
    ∃ m', fX4_keep_54 N n (r + 11) r (zN x) m = some m' ∧ zfq r m m' ∧ (∀ a k, a ≠ r + 12 → gi m' a k = gi m a k) ∧ ∀ k, gi m' (r + 12) k = if x ≤ k ∧ k < n0 then gi m (r + 9) k else gi m (r + 12) k := by
  intro d
  induction d with
  | zero =>
    intro n x m hl hx h1 h2 h3
    obtain ⟨n, rfl⟩ : ∃ k, n = k + 1 := ⟨n - 1, by omega⟩
    refine ⟨m, ?_, zfq_rf r m, fun _ _ _ => rfl, fun k => ?_⟩
    · unfold fX4_keep_54
      simp (disch := omega) only [zv, h1, zN_le]
      rw [if_pos (by omega)]
    · rw [if_neg (by omega)]
  | succ d ih =>
    intro n x m hl hx h1 h2 h3
    obtain ⟨n, rfl⟩ : ∃ k, n = k + 1 := ⟨n - 1, by omega⟩
    have hfq : zfq r m (si m (r + 12) x (gi m (r + 9) x)) := zfq_si (zfq_rf r m) (by omega) (by omega)
    obtain ⟨m', p1, p2, p3, p4⟩ := ih n (x + 1) (si m (r + 12) x (gi m (r + 9) x)) (by omega) (by omega) (by rw [gi_ne (by omega)]; exact h1) h2 h3
    refine ⟨m', ?_, zfq_tr hfq p2, fun a k ha => ?_, fun k => ?_⟩
    · unfold fX4_keep_54
      simp (disch := omega) only [zv, h1, zN_le]
      rw [if_neg (by omega)]
      simp (disch := omega) only [zgr h2, zgr h3, zald, zast, zN_lit, zN_add]
      exact p1
    · rw [p3 a k ha, gi_ne (by omega)]
    · rw [p4 k, gi_ne (by omega)]
      by_cases e : k = x
      · subst e
        rw [if_neg (by omega), gi_si, if_pos (by omega)]
      · rw [gi_ne (by omega)]
        by_cases e2 : x ≤ k ∧ k < n0
        · rw [if_pos (by omega), if_pos e2]
        · rw [if_neg (by omega), if_neg e2]
theorem zc_keep {N : Nat → Nat} {t : Bool} {r c : Nat} {P : zP} {m : XM} {s : zS} {x : Nat} (hx : zok P x) (hU : zU N m r c P) (h : zCR t m r P s) :
    ∃ m', fX4_keep N (r + 11) r (zN x) m = some m' ∧ zfq r m m' ∧ (∀ a k, a ≠ r + 11 → a ≠ r + 12 → gi m' a k = gi m a k) ∧ gi m' (r + 11) 0 = gi m (r + 11) 0 ∧ zsgt m' (r + 11) P (x, zval s x, zwk s, zopn s, zsp s) := by
  obtain ⟨⟨a1, a2, a3, a4⟩, ⟨q1, q2, q3, q4, q5, q6, q7, q8, q9, q10, -⟩, h7, hst, h15⟩ := h
  obtain ⟨⟨-, -, -, -, u5, -⟩, ⟨n1, n2, n3, n4, n5, n6, n7, n8, n9, n10, n12⟩, hdis, hwf, ⟨-, -, -, -, r5, -⟩, ⟨-, -, -, hd, -⟩, ⟨g0, g1, g2, g3, g5, g6, g60, g61, g62, g8, g9, g17, g12⟩⟩ := hU
  have hn := hwf.1
  have hx1 := hx.1
  have hx2 := hx.2
  have hc := (hwf.2.1 _ hx1).1
  have hx84 : x < 84 := by omega
  have hnm := (hd x hx).2.1
  have hM0 : ∀ v1 v2 v3 v4 v5 v6, zfq r m (si (si (si (si (si (si m (r + 11) 3 v1) (r + 11) 4 v2) (r + 11) 5 v3) (r + 11) 6 v4) (r + 11) 7 v5) (r + 11) 1 v6) := fun v1 v2 v3 v4 v5 v6 =>
    zfq_si (zfq_si (zfq_si (zfq_si (zfq_si (zfq_si (zfq_rf r m) (by omega) (by omega)) (by omega) (by omega)) (by omega) (by omega)) (by omega) (by omega)) (by omega) (by omega)) (by omega) (by omega)
  unfold fX4_keep
  have hX := zXF
  revert hX
  generalize XF = nf
  intro hX
  obtain ⟨m', p1, p2, p3, p4⟩ := zc_keep_54 (N := N) (r := r) a2 n9 n12 (zopn s).length nf 0 (si (si (si (si (si (si m (r + 11) 3 (zN x)) (r + 11) 4 (zopt (znam P x))) (r + 11) 5 (zval s x)) (r + 11) 6 (zN (zwk s))) (r + 11) 7 (zN (zsp s))) (r + 11) 1 (zN (zopn s).length)) (by omega) (by omega) (gi_si _ _ _ _) g12 g8
  refine ⟨m', ?_, zfq_tr (hM0 _ _ _ _ _ _) p2, fun a k h1 h2 => ?_, ?_, ?_, ?_, ?_, ?_, ?_, ?_, ?_⟩
  · simp (disch := omega) only [zv, zgr_si, zgr g0, zgr r5, zald, gi_ne, hnm, zgr g2, q2 x hx, q6, q10, h7, zN_lit]
    exact p1
  · rw [p3 a k (by omega), gi_ne (by omega), gi_ne (by omega), gi_ne (by omega), gi_ne (by omega), gi_ne (by omega), gi_ne (by omega)]
  · rw [p3 _ _ (by omega), gi_ne (by omega), gi_ne (by omega), gi_ne (by omega), gi_ne (by omega), gi_ne (by omega), gi_ne (by omega)]
  · rw [p3 _ _ (by omega), gi_ne (by omega), gi_ne (by omega), gi_ne (by omega), gi_ne (by omega), gi_ne (by omega), gi_si]
  · rw [p3 _ _ (by omega), gi_ne (by omega), gi_ne (by omega), gi_ne (by omega), gi_ne (by omega), gi_si]
  · rw [p3 _ _ (by omega), gi_ne (by omega), gi_ne (by omega), gi_ne (by omega), gi_si]
  · rw [p3 _ _ (by omega), gi_ne (by omega), gi_ne (by omega), gi_si]
  · rw [p3 _ _ (by omega), gi_ne (by omega), gi_si]
  · rw [p3 _ _ (by omega), gi_si]
  · refine zstk_cp (fun i hi => ?_) hst
    rw [p4 i, if_pos ⟨Nat.zero_le _, hi⟩, gi_ne (by omega), gi_ne (by omega), gi_ne (by omega), gi_ne (by omega), gi_ne (by omega), gi_ne (by omega)]
/-- one more surprise is counted; m' is m but for the one that is kept -/
theorem zCr_sur {t : Bool} {m m' : XM} {r : Nat} {P : zP} {s : zS} {q0 : zRec} (h : zCr t m r P s) (h3 : (zsur s).length < 3000) (e0 : ∀ a k, a ≠ r + 11 → a ≠ r + 12 → gi m' a k = gi m a k) (e1 : gi m' (r + 11) 0 = gi m (r + 11) 0)
    (e2 : gi m (r + 11) 0 ≠ zN (zsur s).length → ∀ k, gi m' (r + 11) k = gi m (r + 11) k ∧ gi m' (r + 12) k = gi m (r + 12) k) (e3 : gi m (r + 11) 0 = zN (zsur s).length → zsgt m' (r + 11) P q0) :
    zCr t (si m' r 12 (zN ((zsur s).length + 1))) r P (zs_sur s (q0 :: zsur s)) := by
  obtain ⟨q1, q2, q3, q4, q5, q6, q7, q8, q9, q10, q11, q12⟩ := h
  have e : ∀ a k, a ≠ r + 11 → a ≠ r + 12 → ¬ (a = r ∧ k = 12) → gi (si m' r 12 (zN ((zsur s).length + 1))) a k = gi m a k := fun a k h1 h2 h3 => by rw [gi_ne h3, e0 a k h1 h2]
  refine ⟨fun u hu => ?_, fun x hx => ?_, fun x hx hs => ?_, ?_, zstk_fr (fun k => e _ _ (by omega) (by omega) (by omega)) q5, ?_, gi_si _ _ _ _, ?_, ?_, ?_, fun ht u hu hs => ?_, fun k q hk hk' hq => ?_⟩
  · rw [e _ _ (by omega) (by omega) (by omega)]; exact q1 u hu
  · rw [e _ _ (by omega) (by omega) (by omega)]; exact q2 x hx
  · rw [e _ _ (by omega) (by omega) (by omega)]; exact q3 x hx hs
  · rw [e _ _ (by omega) (by omega) (by omega)]; exact q4
  · rw [e _ _ (by omega) (by omega) (by omega)]; exact q6
  · rw [e _ _ (by omega) (by omega) (by omega)]; exact q8
  · rw [e _ _ (by omega) (by omega) (by omega)]; exact q9
  · rw [e _ _ (by omega) (by omega) (by omega)]; exact q10
  · rw [e _ _ (by omega) (by omega) (by omega), e _ _ (by omega) (by omega) (by omega), e _ _ (by omega) (by omega) (by omega)]; exact q11 ht u hu hs
  · rw [gi_ne (by omega), e1] at hk
    have hq' : (if k = (zsur s).length then some q0 else zpick (zsur s) k) = some q := hq
    have hsg : ∀ q', zsgt m' (r + 11) P q' → zsgt (si m' r 12 (zN ((zsur s).length + 1))) (r + 11) P q' := fun q' => zsgt_fr (fun k => gi_ne (by omega)) (fun k => gi_ne (by omega))
    by_cases hkk : k = (zsur s).length
    · rw [if_pos hkk] at hq'
      cases hq'
      exact hsg _ (e3 (by rw [hk, hkk]))
    · rw [if_neg hkk] at hq'
      have hne : gi m (r + 11) 0 ≠ zN (zsur s).length := by
        rw [hk]
        intro hh
        exact hkk (zN_inj (by omega) (by omega) hh)
      exact hsg _ (zsgt_fr (fun j => (e2 hne j).1) (fun j => (e2 hne j).2) (q12 k q hk hk' hq'))
theorem zc_readVariable {N : Nat → Nat} {t : Bool} {r c : Nat} {P : zP} {m : XM} {s : zS} {x : Nat} (hx : zok P x) (hkd : zknd P x = 1) (hU : zU N m r c P) (h : zCR t m r P s) (hw : (zsur s).length < zwk s) :
    ∃ m', fX2_readVariable N r (zN x) m = some (zN 1, m') ∧ zfq r m m' ∧ zCR t m' r P (zNote P x s) ∧ gi m' r 10 = zval s x ∧ ∀ k, gi m' (r + 10) k = gi m (r + 10) k := by
  have hE := zc_isEarly hU h hx hkd
  have h0 := h
  have hU0 := hU
  obtain ⟨⟨a1, a2, a3, a4, a5, a6, a7, a8, a9⟩, hC, h7, hst, h15⟩ := h
  have hC0 := hC
  obtain ⟨q1, q2, q3, q4, q5, q6, q7, -⟩ := hC0
  obtain ⟨-, ⟨n1, n2, n3, n4, n5, n6, n7, n8, n9, n10, n12⟩, hdis, hwf, -, -, ⟨g0, g1, g2, g3, g5, g6, g60, g61, g62, g8, g9, g17, g12⟩⟩ := hU
  have hn := hwf.1
  have hx1 := hx.1
  have hx2 := hx.2
  have hc := (hwf.2.1 _ hx1).1
  have hx84 : x < 84 := by omega
  unfold fX2_readVariable fX2_readVariable_31 fX2_readVariable_41
  rw [hE]
  simp (disch := omega) only [zca, zN_lit]
  unfold zNote
  by_cases he : zEarly P x s
  · simp (disch := omega) only [he, if_true, zN_eq, Nat.one_ne_zero, if_false, zv, q7, zgr g17]
    have fin : ∀ m1, zfq r m m1 → (∀ a k, a ≠ r + 11 → a ≠ r + 12 → gi m1 a k = gi m a k) → gi m1 (r + 11) 0 = gi m (r + 11) 0 → (gi m (r + 11) 0 ≠ zN (zsur s).length → ∀ k, gi m1 (r + 11) k = gi m (r + 11) k ∧ gi m1 (r + 12) k = gi m (r + 12) k) → (gi m (r + 11) 0 = zN (zsur s).length → zsgt m1 (r + 11) P (x, zval s x, zwk s, zopn s, zsp s)) →
        ∃ m', (xgr (si m1 r 12 (zN ((zsur s).length + 1))) r 2 fun u1 => xald N (si m1 r 12 (zN ((zsur s).length + 1))) u1 (zN x) fun v2 => some (zN 1, si (si m1 r 12 (zN ((zsur s).length + 1))) r 10 v2)) = some (zN 1, m') ∧ zfq r m m' ∧ zCR t m' r P (zs_sur s ((x, zval s x, zwk s, zopn s, zsp s) :: zsur s)) ∧ gi m' r 10 = zval s x ∧ ∀ k, gi m' (r + 10) k = gi m (r + 10) k := by
      intro m1 f1 f2 f3 f4 f5
      have g2' : gr m1 r 2 = some (r + 2) := by rw [f1.2.1 _ _ (by omega) (by omega)]; exact g2
      refine ⟨si (si m1 r 12 (zN ((zsur s).length + 1))) r 10 (zval s x), ?_, zfq_si (zfq_si f1 (by omega) (by omega)) (by omega) (by omega), ⟨⟨a1, a2, a3, a4, ?_, a6, a7, a8, ?_⟩, zCr_op (Or.inr (Or.inl rfl)) (zCr_sur hC (by omega) f2 f3 f4 f5), ?_, ?_, ?_⟩, gi_si _ _ _ _, fun k => ?_⟩
      · simp (disch := omega) only [zgr_si, zgr g2', zald, gi_ne]
        rw [f2 _ _ (by omega) (by omega), q2 x hx]
      · show (zsur s).length + 1 ≤ zwk s; omega
      · intro q hq
        rcases List.mem_cons.mp hq with e | e
        · rw [e]; exact ⟨hx, a2⟩
        · exact a9 q e
      · rw [gi_ne (by omega), gi_ne (by omega), f2 _ _ (by omega) (by omega)]; exact h7
      · exact zstk_fr (fun k => by rw [gi_ne (by omega), gi_ne (by omega), f2 _ _ (by omega) (by omega)]) hst
      · rw [gi_ne (by omega), gi_ne (by omega), f2 _ _ (by omega) (by omega)]; exact h15
      · rw [gi_ne (by omega), gi_ne (by omega), f2 _ _ (by omega) (by omega)]
    by_cases hw0 : zN (zsur s).length = gi m (r + 11) 0
    · rw [if_pos hw0]
      obtain ⟨m1, k1, k2, k3, k4, k5⟩ := zc_keep hx hU0 h0
      have k6 : gi m1 r 12 = zN (zsur s).length := by rw [k3 _ _ (by omega) (by omega)]; exact q7
      simp (disch := omega) only [k1, zcv, k6, zN_add]
      exact fin m1 k2 k3 k4 (fun hh => absurd hw0.symm hh) (fun _ => k5)
    · rw [if_neg hw0]
      simp only [zN_add]
      exact fin m (zfq_rf r m) (fun _ _ _ _ => rfl) rfl (fun _ k => ⟨rfl, rfl⟩) (fun hh => absurd hh.symm hw0)
  · simp (disch := omega) only [he, if_false, zN_eq, if_true, zv, zgr g2, zald, q2 x hx, Bool.false_eq_true]
    refine ⟨si m r 10 (zval s x), rfl, zfq_si (zfq_rf r m) (by omega) (by omega), ⟨⟨a1, a2, a3, a4, a5, a6, a7, a8, a9⟩, zCr_op (Or.inr (Or.inl rfl)) hC, ?_, zstk_o (by omega) hst, ?_⟩, gi_si _ _ _ _, fun k => gi_ne (by omega)⟩
    · rw [gi_ne (by omega)]; exact h7
    · rw [gi_ne (by omega)]; exact h15
