/-! ===== w: the class's search ===== -/
def zcat {α : Type} (f : Nat → List α) : Nat → Nat → List α
  | 0, _ => []
  | d + 1, u => f u ++ zcat f d (u + 1)
/-- all orders that begin with us, in their order -/
def zC (n : Nat) : Nat → Nat → List Nat → List (List Nat)
  | 0, _, us => [us]
  | k + 1, M, us => zcat (fun u => if M / 2 ^ u % 2 = 0 then zC n k (M + 2 ^ u) (us ++ [u]) else []) n 0
def wcnt (st : Nat × Int32 × Nat) (its ord : Nat) : Nat × Int32 × Nat := if st.1 < its then st else if its < st.1 ∨ st.2.2 = 0 then (its, zN ord, 1) else (st.1, st.2.1, st.2.2 + 1)
def wfold (P : zP) (st : Nat × Int32 × Nat) (L : List (List Nat)) : Nat × Int32 × Nat := L.foldl (fun st us => wcnt st (zits P us) (yord us 0)) st
theorem wfold_app (P : zP) (st : Nat × Int32 × Nat) (L L' : List (List Nat)) : wfold P st (L ++ L') = wfold P (wfold P st L) L' := List.foldl_append
theorem wfold_hi (P : zP) : ∀ (L : List (List Nat)) (st : Nat × Int32 × Nat), (∀ us ∈ L, st.1 < zits P us) → wfold P st L = st
  | [], _, _ => rfl
  | us :: L, st, h => by
    have h1 : wcnt st (zits P us) (yord us 0) = st := if_pos (h us List.mem_cons_self)
    show wfold P (wcnt st (zits P us) (yord us 0)) L = st
    rw [h1]
    exact wfold_hi P L st (fun v hv => h v (List.mem_cons_of_mem _ hv))
theorem wcnt_le (st : Nat × Int32 × Nat) (its ord : Nat) : (wcnt st its ord).1 ≤ st.1 ∧ (wcnt st its ord).2.2 ≤ st.2.2 + 1 := by
  unfold wcnt
  split
  · exact ⟨Nat.le_refl _, Nat.le_succ _⟩
  · split
    · exact ⟨by show its ≤ st.1; omega, by show 1 ≤ st.2.2 + 1; omega⟩
    · exact ⟨Nat.le_refl _, Nat.le_refl _⟩
theorem wfold_le (P : zP) : ∀ (L : List (List Nat)) (st : Nat × Int32 × Nat), (wfold P st L).1 ≤ st.1 ∧ (wfold P st L).2.2 ≤ st.2.2 + L.length
  | [], _ => ⟨Nat.le_refl _, Nat.le_refl _⟩
  | us :: L, st => by
    have h1 := wcnt_le st (zits P us) (yord us 0)
    have h2 := wfold_le P L (wcnt st (zits P us) (yord us 0))
    refine ⟨Nat.le_trans h2.1 h1.1, ?_⟩
    show (wfold P (wcnt st (zits P us) (yord us 0)) L).2.2 ≤ st.2.2 + (L.length + 1)
    omega
theorem zcat_mem {α : Type} {f : Nat → List α} {x : α} : ∀ (d u : Nat), x ∈ zcat f d u → ∃ v, u ≤ v ∧ v < u + d ∧ x ∈ f v
  | 0, _, h => by cases h
  | d + 1, u, h => by
    rcases List.mem_append.mp h with g | g
    · exact ⟨u, Nat.le_refl _, by omega, g⟩
    · obtain ⟨v, h1, h2, h3⟩ := zcat_mem d (u + 1) g
      exact ⟨v, by omega, by omega, h3⟩
theorem zsum_le {a q : Nat × Nat × Nat} (h : a.2.2 ≤ 1000000) : a.2.2 ≤ zsum a q := by
  unfold zsum
  split <;> omega
theorem wlow {P : zP} (hw : zwf P) : ∀ (k M : Nat) (us : List Nat) (a : Nat × Nat × Nat), zway P 0 us a → ∀ vs ∈ zC (zn P) k M us, a.2.2 ≤ zits P vs
  | 0, M, us, a, h, vs, hv => by
    rw [List.mem_singleton.mp hv, ← zway_end hw h]
    exact zsum_le (zway_le h)
  | k + 1, M, us, a, h, vs, hv => by
    obtain ⟨u, -, h2, h3⟩ := zcat_mem _ _ hv
    by_cases e : M / 2 ^ u % 2 = 0
    · rw [if_pos e] at h3
      have := wlow hw k (M + 2 ^ u) (us ++ [u]) (zgo P a u) (zway_go hw (by omega) h) vs h3
      exact Nat.le_trans (zsum_le (zway_le h)) this
    · rw [if_neg e] at h3; cases h3
theorem yord_snoc (u : Nat) : ∀ (us : List Nat) (a : Nat), yord (us ++ [u]) a = 10 * yord us a + u
  | [], a => rfl
  | v :: us, a => yord_snoc u us _
section WF
variable {N : Nat → Nat} {m : XM} {c : Nat} {P : zP}
theorem wlg_look {q : Nat × Nat × Nat} (h : q.2.2 < 4096) : wlg q % 4096 = q.2.2 := by unfold wlg; omega
theorem wlg_work {q : Nat × Nat × Nat} (h : q.2.2 < 4096) (h1 : q.2.1 < 4096) : wlg q / 4096 % 4096 = q.2.1 := by unfold wlg; omega
theorem wlg_sur {q : Nat × Nat × Nat} (h : q.2.2 < 4096) (h1 : q.2.1 < 4096) : wlg q / 16777216 = q.1 := by unfold wlg; omega
theorem wlg_lt {q : Nat × Nat × Nat} (h0 : q.1 ≤ 3000) (h1 : q.2.1 ≤ 3001) (h : q.2.2 < 2187) : wlg q < 9223372036854775808 := by unfold wlg; omega
theorem wc_look {q : Nat × Nat × Nat} (h : q.2.2 < 2187) : fX3_lookOf N 77 (zQ64 (wlg q)) m = some (zN q.2.2, m) := by
  unfold fX3_lookOf
  simp only [zv, zN_lit, q64_i32, zN_4095, wlg_look (show q.2.2 < 4096 by omega)]
theorem wc_work {q : Nat × Nat × Nat} (h0 : q.1 ≤ 3000) (h1 : q.2.1 ≤ 3001) (h : q.2.2 < 2187) : fX3_workOf N 77 (zQ64 (wlg q)) m = some (zN q.2.1, m) := by
  have hl := wlg_lt h0 h1 h
  unfold fX3_workOf
  simp only [zv, zN_lit, q64_shr12 hl, q64_i32, zN_4095, wlg_work (show q.2.2 < 4096 by omega) (show q.2.1 < 4096 by omega)]
theorem wc_sum {a q : Nat × Nat × Nat} (h0 : q.1 ≤ 3000) (h1 : q.2.1 ≤ 3001) (h : q.2.2 < 2187) (ha : a.2.1 < 1000000) : fX3_sumUp N 77 (zN a.2.2) (zN a.2.1) (zQ64 (wlg q)) m = some (zN (zsum a q), m) := by
  have hl := wlg_lt h0 h1 h
  unfold fX3_sumUp zsum
  simp (disch := omega) only [wc_work h0 h1 h, zca, zv, zN_lit, zN_add, zN_le, q64_shr24 hl, q64_i32, wlg_sur (show q.2.2 < 4096 by omega) (show q.2.1 < 4096 by omega)]
  by_cases e : a.2.1 + q.2.1 ≤ 3000
  · rw [if_pos e, if_pos e]
  · rw [if_neg e, if_neg e]
def wF (m : XM) (st : Nat × Int32 × Nat) : Prop := gi m 77 1 = zN st.1 ∧ gi m 77 2 = st.2.1 ∧ gi m 77 3 = zN st.2.2
theorem wc_count {st : Nat × Int32 × Nat} {its ord : Nat} (h : wF m st) (h1 : st.1 ≤ 1000000) (h2 : st.2.2 ≤ 1000000) (h3 : its ≤ 1000000) : ∃ m', fX3_countOrder N 77 (zN its) (zN ord) m = some m' ∧ wF m' (wcnt st its ord) ∧ (∀ a k, ¬ (a = 77 ∧ 1 ≤ k ∧ k ≤ 3) → gi m' a k = gi m a k) ∧ (∀ a k, gr m' a k = gr m a k) ∧ (∀ a k, gl m' a k = gl m a k) := by
  obtain ⟨f1, f2, f3⟩ := h
  unfold fX3_countOrder fX3_countOrder_24 fX3_countOrder_39 wcnt
  simp (disch := omega) only [zv, f1, zN_le, zN_lt, f3, zN_lit, zN_eq, gi_si, zN_add]
  by_cases e1 : st.1 < its
  · rw [if_neg (by omega), if_pos e1]
    exact ⟨m, rfl, ⟨f1, f2, f3⟩, fun _ _ _ => rfl, fun _ _ => rfl, fun _ _ => rfl⟩
  · rw [if_pos (by omega), if_neg e1]
    have hset : ∃ m', some (si (si (si (si m 77 1 (zN its)) 77 2 (zN ord)) 77 3 (zN 0)) 77 3 (zN (0 + 1))) = some m' ∧ wF m' (its, zN ord, 1) ∧ (∀ a k, ¬ (a = 77 ∧ 1 ≤ k ∧ k ≤ 3) → gi m' a k = gi m a k) ∧ (∀ a k, gr m' a k = gr m a k) ∧ (∀ a k, gl m' a k = gl m a k) := by
      refine ⟨_, rfl, ⟨?_, ?_, ?_⟩, fun a k hk => ?_, fun _ _ => rfl, fun _ _ => rfl⟩
      · rw [gi_ne (by omega), gi_ne (by omega), gi_ne (by omega), gi_si]
      · rw [gi_ne (by omega), gi_ne (by omega), gi_si]
      · rw [gi_si]
      · rw [gi_ne (by omega), gi_ne (by omega), gi_ne (by omega), gi_ne (by omega)]
    by_cases e2 : its < st.1
    · rw [if_pos e2, if_pos (Or.inl e2)]
      exact hset
    · rw [if_neg e2]
      by_cases e3 : st.2.2 = 0
      · rw [if_pos e3, if_pos (Or.inr e3)]
        exact hset
      · rw [if_neg e3, if_neg (by omega)]
        refine ⟨_, rfl, ⟨?_, ?_, gi_si _ _ _ _⟩, fun a k hk => gi_ne (by omega), fun _ _ => rfl, fun _ _ => rfl⟩
        · rw [gi_ne (by omega)]; exact f1
        · rw [gi_ne (by omega)]; exact f2
def wG (N : Nat → Nat) (c : Nat) (P : zP) (m : XM) (st : Nat × Int32 × Nat) (o : Option XM) : Prop := ∃ m', o = some m' ∧ wX N m' c P ∧ wM m' P ∧ wS m m' ∧ wF m' st
theorem wX_eq {m' : XM} (h : wX N m c P) (e0 : ∀ a k, ¬ (a = 77 ∧ 1 ≤ k ∧ k ≤ 3) → gi m' a k = gi m a k) (e1 : ∀ a k, gr m' a k = gr m a k) (e2 : ∀ a k, gl m' a k = gl m a k) : wS m m' ∧ wX N m' c P := by
  have hs : wS m m' := ⟨fun a ha => ⟨fun k => e0 a k (by omega), fun k => e2 a k, fun k => e1 a k⟩, fun k => e0 _ _ (by omega), fun a k _ => e1 a k, fun a k _ _ => e2 a k, fun k hk => e0 _ _ (by omega), e0 _ _ (by omega)⟩
  refine ⟨hs, wX_S h hs ?_ ?_⟩
  · obtain ⟨-, -, -, -, -, -, ⟨c0, h7⟩, -⟩ := h
    refine ⟨c0, ?_⟩
    unfold zRr at h7 ⊢
    simp only [e1]
    exact h7
  · obtain ⟨-, -, -, -, -, -, -, ⟨p, h8, h8'⟩, -⟩ := h
    exact ⟨p, by rw [e0 _ _ (by omega)]; exact h8, h8'⟩
def wQg (N : Nat → Nat) (c : Nat) (P : zP) (k : Nat) (R : Nat → Nat → Int32 → Int32 → Int32 → Int32 → Int32 → XM → Option (Int32 × XM)) : Prop :=
  ∀ m us M a st, M < 2 ^ zn P → zpc M = us.length → us.length + k = zn P → (∀ u ∈ us, u < 10) → zway P 0 us a → a.2.1 ≤ 3001 * us.length → st.1 ≤ 1000000 → st.2.2 + (zC (zn P) k M us).length ≤ 1000000 → wX N m c P → wM m P → wF m st → ∃ v, wG N c P m (wfold P st (zC (zn P) k M us)) ((R 0 77 (zN M) (zN a.1) (zN a.2.1) (zN a.2.2) (zN (yord us 0)) m).map Prod.snd) ∧ v = 0
theorem wq_loop (hw : zwf P) {k : Nat} {R : Nat → Nat → Int32 → Int32 → Int32 → Int32 → Int32 → XM → Option (Int32 × XM)} (hR : wQg N c P k R) {us : List Nat} {M : Nat} {a : Nat × Nat × Nat} (hM2 : M < 2 ^ zn P) (hpc : zpc M = us.length) (hk : us.length + (k + 1) = zn P) (hu10 : ∀ u ∈ us, u < 10) (hway : zway P 0 us a) (ha : a.2.1 ≤ 3001 * us.length) : ∀ (d n u : Nat) (m : XM) (st : Nat × Int32 × Nat), d < n → u + d = zn P → st.1 ≤ 1000000 → st.2.2 + (zcat (fun u => if M / 2 ^ u % 2 = 0 then zC (zn P) k (M + 2 ^ u) (us ++ [u]) else []) d u).length ≤ 1000000 → wX N m c P → wM m P → wF m st →
    wG N c P m (wfold P st (zcat (fun u => if M / 2 ^ u % 2 = 0 then zC (zn P) k (M + 2 ^ u) (us ++ [u]) else []) d u)) (fX3_goOn_49 N R n 77 (zN M) (zN a.1) (zN a.2.1) (zN a.2.2) (zN (yord us 0)) (zN u) m) := by
  have hz := hw.1
  have hM128 : M < 128 := Nat.lt_of_lt_of_le hM2 (by
    have : 2 ^ zn P ≤ 2 ^ 7 := Nat.pow_le_pow_right (by omega) hz
    omega)
  have hord : yord us 0 < 10000000 := Nat.lt_of_lt_of_le (yord_lt us hu10) (ypow_lt (by omega))
  intro d
  induction d with
  | zero =>
    intro n u m st hn hu _ _ hX hM hF
    obtain ⟨n, rfl⟩ : ∃ k, n = k + 1 := ⟨n - 1, by omega⟩
    have h11 := hX.2.2.2.2.2.2.2.2.2.2.1
    have hd1 := hX.2.2.2.2.2.1.1
    refine ⟨m, ?_, hX, hM, wS_rf m, hF⟩
    unfold fX3_goOn_49
    simp (disch := omega) only [zv, zgr h11, hd1, zN_le]
    rw [if_pos (by omega)]
  | succ d ih =>
    intro n u m st hn hu hst1 hst2 hX hM hF
    obtain ⟨n, rfl⟩ : ∃ k, n = k + 1 := ⟨n - 1, by omega⟩
    have h11 := hX.2.2.2.2.2.2.2.2.2.2.1
    have hd1 := hX.2.2.2.2.2.1.1
    have hbit := wb_bit M hM128 u (by omega)
    have hc : zcat (fun u => if M / 2 ^ u % 2 = 0 then zC (zn P) k (M + 2 ^ u) (us ++ [u]) else []) (d + 1) u = (if M / 2 ^ u % 2 = 0 then zC (zn P) k (M + 2 ^ u) (us ++ [u]) else []) ++ zcat (fun u => if M / 2 ^ u % 2 = 0 then zC (zn P) k (M + 2 ^ u) (us ++ [u]) else []) d (u + 1) := rfl
    rw [hc] at hst2 ⊢
    rw [List.length_append] at hst2
    rw [wfold_app]
    unfold fX3_goOn_49 fX3_goOn_120
    simp (disch := omega) only [zv, zgr h11, hd1, zN_le, zN_lit, hbit, zN_eq]
    rw [if_neg (show ¬ zn P ≤ u by omega)]
    by_cases e : M / 2 ^ u % 2 = 0
    · simp only [e, if_true] at hst2 ⊢
      obtain ⟨hor, h128⟩ := wb_set M hM128 u (by omega) e
      have hp128 : 2 ^ u < 128 := by omega
      have hor' : zN M ||| zN (2 ^ u) = zN (M + 2 ^ u) := by rw [wb_or M hM128 _ hp128, hor]
      obtain ⟨m1, b1, b2, b3, b4, b5⟩ := wc_leap hX hM hway.1 (x := u) (Or.inr (by omega))
      have hbd := zlp_bd hw (l := a.1) (x := u) (Or.inr (by omega)) hway.1
      have hgo : zgo P a u = ((zlp P a.1 u).2.2, a.2.1 + (zlp P a.1 u).2.1, zsum a (zlp P a.1 u)) := rfl
      simp (disch := omega) only [b1, zca, wb_one, hor', wc_look hbd.2.2, wc_work hbd.1 hbd.2.1 hbd.2.2, zN_add, wc_sum (a := a) hbd.1 hbd.2.1 hbd.2.2 (by omega), zN_mul]
      have hF1 : wF m1 st := ⟨by rw [b5]; exact hF.1, by rw [b5]; exact hF.2.1, by rw [b5]; exact hF.2.2⟩
      obtain ⟨v, ⟨m2, c1, c2, c3, c4, c5⟩, -⟩ := hR m1 (us ++ [u]) (M + 2 ^ u) (zgo P a u) st (wb_lt _ (by omega) M hM2 u (by omega) e) (by rw [wb_pc M hM128 u (by omega) e, hpc]; simp) (by simp; omega) (fun w hw' => by
        rcases List.mem_append.mp hw' with g | g
        · exact hu10 w g
        · rw [List.mem_singleton.mp g]; omega) (zway_go hw (by omega) hway) (by rw [hgo]; simp only [List.length_append, List.length_singleton]; omega) hst1 (by omega) b2 b3 hF1
      rw [yord_snoc, hgo, Nat.mul_comm 10] at c1
      rw [c1, zcv]
      have hle := wfold_le P (zC (zn P) k (M + 2 ^ u) (us ++ [u])) st
      obtain ⟨m3, d1, d2, d3, d4, d5⟩ := ih n (u + 1) m2 (wfold P st (zC (zn P) k (M + 2 ^ u) (us ++ [u]))) (by omega) (by omega) (by omega) (by omega) c2 c3 c5
      exact ⟨m3, d1, d2, d3, wS_tr (wS_tr b4 c4) d4, d5⟩
    · simp only [e, if_false] at hst2 ⊢
      have hst2' : st.2.2 + (zcat (fun u => if M / 2 ^ u % 2 = 0 then zC (zn P) k (M + 2 ^ u) (us ++ [u]) else []) d (u + 1)).length ≤ 1000000 := by
        simp only [List.length_nil, Nat.zero_add] at hst2
        exact hst2
      simp only [zN_add]
      exact ih n (u + 1) m st (by omega) (by omega) hst1 hst2' hX hM hF
theorem wgE (N : Nat → Nat) (e q : Nat) (x0 x1 x2 x3 x4 : Int32) (m : XM) : gX3_goOn N (e + 1) 0 q x0 x1 x2 x3 x4 m = ((fX3_goOn N (gX3_goOn N e) q x0 x1 x2 x3 x4 m).map fun m => ((0 : Int32), m)) := by
  rw [gX3_goOn, zv, if_pos rfl]
theorem wq_go (hw : zwf P) : ∀ (k e : Nat), k < e → wQg N c P k (gX3_goOn N e) := by
  intro k
  have hz := hw.1
  induction k with
  | zero =>
    intro e he m us M a st hM2 hpc hk hu10 hway ha hst1 hst2 hX hM hF
    obtain ⟨e, rfl⟩ : ∃ j, e = j + 1 := ⟨e - 1, by omega⟩
    refine ⟨0, ?_, rfl⟩
    have hM128 : M < 128 := Nat.lt_of_lt_of_le hM2 (by
      have : 2 ^ zn P ≤ 2 ^ 7 := Nat.pow_le_pow_right (by omega) hz
      omega)
    have hpn : 2 ^ zn P ≤ 128 := by
      have : 2 ^ zn P ≤ 2 ^ 7 := Nat.pow_le_pow_right (by omega) hz
      omega
    have hp1 : 1 ≤ 2 ^ zn P := Nat.pow_pos (by omega)
    have hord : yord us 0 < 10000000 := Nat.lt_of_lt_of_le (yord_lt us hu10) (ypow_lt (by omega))
    have hfull : M = 2 ^ zn P - 1 := by rw [wb_full _ (by omega) M hM2]; omega
    have h11 := hX.2.2.2.2.2.2.2.2.2.2.1
    have hd1 := hX.2.2.2.2.2.1.1
    have ha6 := zway_le hway
    rw [wgE]
    unfold fX3_goOn
    generalize XF = nf
    simp (disch := omega) only [zv, hF.1, zN_le, zgr h11, hd1, zN_lit, wb_one, zN_sub, zN_eq]
    by_cases ep : a.2.2 ≤ st.1
    · rw [if_pos ep, if_pos hfull]
      obtain ⟨m1, b1, b2, b3, b4, b5⟩ := wc_leap hX hM hway.1 (x := 7) (Or.inl rfl)
      have hbd := zlp_bd hw (l := a.1) (x := 7) (Or.inl rfl) hway.1
      have hF1 : wF m1 st := ⟨by rw [b5]; exact hF.1, by rw [b5]; exact hF.2.1, by rw [b5]; exact hF.2.2⟩
      have hits : zits P us ≤ 1000000 := by
        rw [← zway_end hw hway]
        unfold zend zsum
        split
        · rename_i g
          rcases hway.2 with ⟨-, hS, -, -, -, -, hwk, hsr⟩ | ⟨-, e2, -⟩
          · have := hS.2.2.2.1
            have := hS.2.2.2.2.1
            omega
          · omega
        · omega
      have hend : zsum a (zlp P a.1 7) = zits P us := zway_end hw hway
      have hl1 : (zC (zn P) 0 M us).length = 1 := rfl
      obtain ⟨m2, c1, c2, c3, c4, c5⟩ := wc_count (N := N) (ord := yord us 0) hF1 hst1 (by omega) hits
      obtain ⟨s2, x2⟩ := wX_eq b2 c3 c4 c5
      refine ⟨m2, ?_, x2, fun l x hl hx => by rw [c5]; exact b3 l x hl hx, wS_tr b4 s2, c2⟩
      simp (disch := omega) only [b1, zca, wc_sum (a := a) hbd.1 hbd.2.1 hbd.2.2 (by omega), hend, c1, zcv, Option.map_some]
    · rw [if_neg ep]
      refine ⟨m, rfl, hX, hM, wS_rf m, ?_⟩
      rw [wfold_hi P _ st (fun vs hv => by have := wlow hw 0 M us a hway vs hv; omega)]
      exact hF
  | succ k ih =>
    intro e he m us M a st hM2 hpc hk hu10 hway ha hst1 hst2 hX hM hF
    obtain ⟨e, rfl⟩ : ∃ j, e = j + 1 := ⟨e - 1, by omega⟩
    refine ⟨0, ?_, rfl⟩
    have hpn : 2 ^ zn P ≤ 128 := by
      have : 2 ^ zn P ≤ 2 ^ 7 := Nat.pow_le_pow_right (by omega) hz
      omega
    have hp1 : 1 ≤ 2 ^ zn P := Nat.pow_pos (by omega)
    have hfull : ¬ M = 2 ^ zn P - 1 := by rw [wb_full _ (by omega) M hM2]; omega
    have h11 := hX.2.2.2.2.2.2.2.2.2.2.1
    have hd1 := hX.2.2.2.2.2.1.1
    have ha6 := zway_le hway
    rw [wgE]
    unfold fX3_goOn
    have hXF := zXF
    revert hXF
    generalize XF = nf
    intro hXF
    simp (disch := omega) only [zv, hF.1, zN_le, zgr h11, hd1, zN_lit, wb_one, zN_sub, zN_eq]
    by_cases ep : a.2.2 ≤ st.1
    · rw [if_pos ep, if_neg hfull]
      obtain ⟨m', d1, d2⟩ := wq_loop hw (ih e (by omega)) hM2 hpc hk hu10 hway ha (zn P) nf 0 m st (by omega) (by omega) hst1 hst2 hX hM hF
      exact ⟨m', by rw [d1]; rfl, d2⟩
    · rw [if_neg ep]
      refine ⟨m, rfl, hX, hM, wS_rf m, ?_⟩
      rw [wfold_hi P _ st (fun vs hv => by have := wlow hw (k + 1) M us a hway vs hv; omega)]
      exact hF
end WF
