/-! ===== u: orders ===== -/
theorem zN_or (a b : Nat) : zN a ||| zN b = zN (a ||| b) := by
  apply Int32.toBitVec_inj.1
  rw [Int32.toBitVec_or]
  show BitVec.ofNat 32 a ||| BitVec.ofNat 32 b = BitVec.ofNat 32 (a ||| b)
  rw [BitVec.ofNat_or]
theorem wb_one1 : ∀ u, u < 10 → zN 1 <<< (zN u &&& zN 31) = zN (2 ^ u) := by decide +kernel
theorem wb_oth : ∀ A, A < 128 → ∀ u, u < 7 → ∀ v, v < 7 → u ≠ v → A / 2 ^ u % 2 = 0 → (A + 2 ^ u) / 2 ^ v % 2 = A / 2 ^ v % 2 := by decide +kernel
theorem wb_or1 : ∀ M, M < 128 → ∀ u, u < 7 → (M ||| 2 ^ u) < 128 ∧ zpc (M ||| 2 ^ u) ≤ zpc M + 1 ∧ (M / 2 ^ u % 2 = 1 → M ||| 2 ^ u = M) := by decide +kernel
theorem wb_lt1 : ∀ n, n < 8 → ∀ M, M < 2 ^ n → ∀ u, u < n → M ||| 2 ^ u < 2 ^ n := by decide +kernel
theorem wb_sb : ∀ n, n < 8 → ∀ u, u < n → (2 ^ n - 1) / 2 ^ u % 2 = 1 := by decide +kernel
/-- the class's test of an order, low digits first -/
def zT (n : Nat) : Nat → Nat → Nat → Prop
  | 0, A, _ => A = 0
  | k + 1, A, M => A % 10 < n ∧ M / 2 ^ (A % 10) % 2 = 0 ∧ zT n k (A / 10) (M + 2 ^ (A % 10))
def zIo (n : Nat) : Nat → Nat → Nat → Prop
  | 0, A, M => A = 0 ∧ M = 2 ^ n - 1
  | k + 1, A, M => zIo n k (A / 10) (M ||| 2 ^ (A % 10))
theorem zIo_le {n : Nat} : ∀ (k A M : Nat), zIo n k A M → M ≤ 2 ^ n - 1
  | 0, _, _, h => Nat.le_of_eq h.2
  | k + 1, A, M, h => Nat.le_trans Nat.left_le_or (zIo_le k _ _ h)
theorem zIo_pc {n : Nat} (hn : n < 8) : ∀ (k A M : Nat), M < 2 ^ n → zIo n k A M → n ≤ zpc M + k
  | 0, _, M, hM, h => by
    have := wb_full n hn M hM
    have h2 : zpc M = n := by rw [← this]; exact h.2
    omega
  | k + 1, A, M, hM, h => by
    have hp : 1 ≤ 2 ^ n := Nat.pow_pos (by omega)
    have h7 : 2 ^ n ≤ 2 ^ 7 := Nat.pow_le_pow_right (by omega) (by omega)
    have hle := zIo_le k _ _ h
    have hu : A % 10 < n := by
      apply Classical.byContradiction
      intro hu
      have h1 : 2 ^ (A % 10) ≤ M ||| 2 ^ (A % 10) := Nat.right_le_or
      have h2 : 2 ^ n ≤ 2 ^ (A % 10) := Nat.pow_le_pow_right (by omega) (by omega)
      omega
    have h1 := zIo_pc hn k (A / 10) (M ||| 2 ^ (A % 10)) (wb_lt1 n hn M hM _ hu) h
    have h2 := (wb_or1 M (by omega) (A % 10) (by omega)).2.1
    omega
theorem zT_I {n : Nat} (hn : n < 8) : ∀ (k A M : Nat), M < 2 ^ n → zpc M + k = n → (zT n k A M ↔ zIo n k A M)
  | 0, A, M, hM, hk => by
    have := wb_full n hn M hM
    constructor
    · exact fun h => ⟨h, by rw [this]; omega⟩
    · exact fun h => h.1
  | k + 1, A, M, hM, hk => by
    have hp : 1 ≤ 2 ^ n := Nat.pow_pos (by omega)
    have h7 : 2 ^ n ≤ 2 ^ 7 := Nat.pow_le_pow_right (by omega) (by omega)
    by_cases hu : A % 10 < n
    · by_cases hb : M / 2 ^ (A % 10) % 2 = 0
      · have e := (wb_set M (by omega) (A % 10) (by omega) hb).1
        have ih := zT_I hn k (A / 10) (M + 2 ^ (A % 10)) (wb_lt n hn M hM _ hu hb) (by have := wb_pc M (by omega) _ (by omega : A % 10 < 7) hb; omega)
        show (A % 10 < n ∧ M / 2 ^ (A % 10) % 2 = 0 ∧ zT n k (A / 10) (M + 2 ^ (A % 10))) ↔ zIo n k (A / 10) (M ||| 2 ^ (A % 10))
        rw [e, ← ih]
        exact ⟨fun h => h.2.2, fun h => ⟨hu, hb, h⟩⟩
      · constructor
        · exact fun h => absurd h.2.1 hb
        · intro h
          have e := (wb_or1 M (by omega) (A % 10) (by omega)).2.2 (by omega)
          have h' : zIo n k (A / 10) (M ||| 2 ^ (A % 10)) := h
          rw [e] at h'
          have := zIo_pc hn k _ _ hM h'
          omega
    · constructor
      · exact fun h => absurd h.1 hu
      · intro h
        have hle := zIo_le k _ _ h
        have h1 : 2 ^ (A % 10) ≤ M ||| 2 ^ (A % 10) := Nat.right_le_or
        have h2 : 2 ^ n ≤ 2 ^ (A % 10) := Nat.pow_le_pow_right (by omega) (by omega)
        omega
/-- digits of a number, the low ones last -/
def zdgs : Nat → Nat → List Nat
  | 0, _ => []
  | k + 1, A => zdgs k (A / 10) ++ [A % 10]
theorem zdgs_len : ∀ k A, (zdgs k A).length = k
  | 0, _ => rfl
  | k + 1, A => by
    show (zdgs k (A / 10) ++ [A % 10]).length = k + 1
    rw [List.length_append, zdgs_len k]; rfl
theorem zT_ord {n : Nat} : ∀ (k A M : Nat), zT n k A M → A = yord (zdgs k A) 0
  | 0, A, M, h => h
  | k + 1, A, M, h => by
    have ih := zT_ord k (A / 10) _ h.2.2
    show A = yord (zdgs k (A / 10) ++ [A % 10]) 0
    rw [yord_snoc, ← ih]
    omega
theorem zT_mem {n : Nat} (hn : n < 8) : ∀ (k A M : Nat), M < 2 ^ n → zT n k A M → (∀ u ∈ zdgs k A, u < n ∧ M / 2 ^ u % 2 = 0) ∧ (zdgs k A).Nodup
  | 0, A, M, _, _ => ⟨fun u hu => (by cases hu), List.nodup_nil⟩
  | k + 1, A, M, hM, h => by
    have h7 : 2 ^ n ≤ 2 ^ 7 := Nat.pow_le_pow_right (by omega) (by omega)
    obtain ⟨h1, h2, h3⟩ := h
    obtain ⟨a1, a2⟩ := zT_mem hn k (A / 10) (M + 2 ^ (A % 10)) (wb_lt n hn M hM _ h1 h2) h3
    have key : ∀ u ∈ zdgs k (A / 10), u ≠ A % 10 := fun u hu e => by
      have := (a1 u hu).2
      rw [e] at this
      have hs := wb_set M (by omega) (A % 10) (by omega) h2
      have : (M + 2 ^ (A % 10)) / 2 ^ (A % 10) % 2 = 1 := by
        rw [Nat.add_div_right _ (Nat.pow_pos (by omega))]
        omega
      omega
    refine ⟨fun u hu => ?_, ?_⟩
    · rcases List.mem_append.mp hu with g | g
      · have hk := key u g
        have := a1 u g
        refine ⟨this.1, ?_⟩
        rw [← wb_oth M (by omega) (A % 10) (by omega) u (by omega) (fun e => hk e.symm) h2]
        exact this.2
      · rw [List.mem_singleton.mp g]; exact ⟨h1, h2⟩
    · show (zdgs k (A / 10) ++ [A % 10]).Nodup
      rw [List.nodup_append]
      exact ⟨a2, List.nodup_cons.2 ⟨fun h => (by cases h), List.nodup_nil⟩, fun u hu v hv => by rw [List.mem_singleton.mp hv]; exact key u hu⟩
theorem zva_of {n : Nat} (hn : n < 8) : ∀ (l : List Nat) (A : Nat), A < 2 ^ n → (∀ u ∈ l, u < n ∧ A / 2 ^ u % 2 = 0) → l.Nodup → zva n l A
  | [], _, _, _, _ => trivial
  | u :: l, A, hA, h, hd => by
    have h7 : 2 ^ n ≤ 2 ^ 7 := Nat.pow_le_pow_right (by omega) (by omega)
    obtain ⟨h1, h2⟩ := h u List.mem_cons_self
    obtain ⟨d1, d2⟩ := List.nodup_cons.1 hd
    refine ⟨h1, h2, zva_of hn l _ (wb_lt n hn A hA u h1 h2) (fun v hv => ?_) d2⟩
    obtain ⟨k1, k2⟩ := h v (List.mem_cons_of_mem _ hv)
    refine ⟨k1, ?_⟩
    rw [wb_oth A (by omega) u (by omega) v (by omega) (fun e => d1 (by rw [e]; exact hv)) h2]
    exact k2
theorem zT_va {n : Nat} (hn : n < 8) {A : Nat} (h : zT n n A 0) : zva n (zdgs n A) 0 := by
  have hp : 1 ≤ 2 ^ n := Nat.pow_pos (by omega)
  obtain ⟨a1, a2⟩ := zT_mem hn n A 0 (by omega) h
  exact zva_of hn _ 0 (by omega) a1 a2
section UJ
variable {N : Nat → Nat} {m : XM} {c d : Nat} {S : zJ} {P : zP}
theorem u_tk_21 (hw : zwf P) (h0 : gi m c 0 = zN (zn P)) (hc : c ≠ 76) (hN : N 76 = 7) : ∀ (k n A M : Nat) (m' : XM), k < n → A < 2147483648 → M < 2 ^ zn P → k ≤ zn P → gr m' 0 3 = some c → gr m' 0 8 = some 76 → (∀ a j, a ≠ 76 → gi m' a j = gi m a j) →
    ∃ m2, (fX8_takesOrder_21 N n 0 (zN A) (zN M) (if k = 0 then zM else zN (k - 1)) m' = some (zN 1, m2) ∧ zT (zn P) k A M ∧ (∀ j, j < k → gi m2 76 j = zN ((zdgs k A).getD j 0)) ∧ (∀ j, k ≤ j → gi m2 76 j = gi m' 76 j) ∨ fX8_takesOrder_21 N n 0 (zN A) (zN M) (if k = 0 then zM else zN (k - 1)) m' = some (zN 0, m2) ∧ ¬ zT (zn P) k A M) ∧ (∀ a j, a ≠ 76 → gi m2 a j = gi m' a j) ∧ (∀ a j, gl m2 a j = gl m' a j) ∧ (∀ a j, gr m2 a j = gr m' a j) := by
  have hz := hw.1
  obtain ⟨p1, p2⟩ := zpow_128 hw
  intro k
  induction k with
  | zero =>
    intro n A M m' hn hA hM _ g3 g8 hm
    obtain ⟨n, rfl⟩ : ∃ j, n = j + 1 := ⟨n - 1, by omega⟩
    refine ⟨m', ?_, fun _ _ _ => rfl, fun _ _ => rfl, fun _ _ => rfl⟩
    rw [if_pos rfl]
    unfold fX8_takesOrder_21
    simp (disch := omega) only [zv, zN_lit, zm_lt, if_true, zN_eq]
    by_cases e : A = 0
    · rw [if_pos e]
      exact Or.inl ⟨(by first | rfl | trivial), e, fun j hj => by omega, fun _ _ => (by first | rfl | trivial)⟩
    · rw [if_neg e]
      exact Or.inr ⟨(by first | rfl | trivial), e⟩
  | succ k ih =>
    intro n A M m' hn hA hM hk g3 g8 hm
    obtain ⟨n, rfl⟩ : ∃ j, n = j + 1 := ⟨n - 1, by omega⟩
    rw [if_neg (by omega), Nat.add_sub_cancel]
    have h0' : gi m' c 0 = zN (zn P) := by rw [hm c 0 hc]; exact h0
    have hrem : xrem (zN A) (zN 10) = zN (A % 10) := zN_rem (by omega) (by omega)
    have hnlt : (zN k < zN 0) = False := zlt0 (by omega)
    have hdm : zN k + zM = if k = 0 then zM else zN (k - 1) := by
      by_cases e : k = 0
      · rw [if_pos e, e, zN_dec0]
      · rw [if_neg e, zN_dec (by omega)]
    have hstep : fX8_takesOrder_21 N (n + 1) 0 (zN A) (zN M) (zN k) m' = if zn P ≤ A % 10 then some (zN 0, m') else (xv (zN M >>> (zN (A % 10) &&& zN 31)) fun v5 => xv (v5 &&& zN 1) fun v6 => if v6 = zN 0 then (xv (zN 1 <<< (zN (A % 10) &&& zN 31)) fun v7 => xv (zN M ||| v7) fun v8 => fX8_takesOrder_21 N n 0 (zN (A / 10)) v8 (if k = 0 then zM else zN (k - 1)) (si m' 76 k (zN (A % 10)))) else some (zN 0, m')) := by
      rw [fX8_takesOrder_21]
      simp (disch := omega) only [zv, zN_lit, hnlt, if_false, zdv, hrem, zN_div, zgr g3, h0', zN_le, zgr g8, zast, zneg, hdm]
    rw [hstep]
    by_cases e1 : zn P ≤ A % 10
    · rw [if_pos e1]
      exact ⟨m', Or.inr ⟨rfl, fun h => by have := h.1; omega⟩, fun _ _ _ => rfl, fun _ _ => rfl, fun _ _ => rfl⟩
    · rw [if_neg e1]
      have hbit := wb_bit M (by omega) (A % 10) (by omega)
      simp (disch := omega) only [zv, hbit, wb_one1, zN_or, zN_eq]
      by_cases e2 : M / 2 ^ (A % 10) % 2 = 0
      · have eM := (wb_set M (by omega) (A % 10) (by omega) e2).1
        rw [if_pos e2, eM]
        obtain ⟨m2, q1, q2, q3, q4⟩ := ih n (A / 10) (M + 2 ^ (A % 10)) (si m' 76 k (zN (A % 10))) (by omega) (by omega) (wb_lt (zn P) (by omega) M hM _ (by omega) e2) (by omega) g3 g8 (fun a j ha => by rw [gi_ne (by omega)]; exact hm a j ha)
        refine ⟨m2, ?_, fun a j ha => by rw [q2 a j ha, gi_ne (by omega)], q3, q4⟩
        rcases q1 with ⟨r1, r2, r3, r4⟩ | ⟨r1, r2⟩
        · refine Or.inl ⟨r1, ⟨by omega, e2, r2⟩, fun j hj => ?_, fun j hj => ?_⟩
          · show _ = zN ((zdgs k (A / 10) ++ [A % 10]).getD j 0)
            have hlen := zdgs_len k (A / 10)
            by_cases ej : j = k
            · rw [ej, r4 k (Nat.le_refl _), gi_si, List.getD_eq_getElem?_getD, List.getElem?_append_right (by omega), hlen, Nat.sub_self]; rfl
            · rw [r3 j (by omega), List.getD_eq_getElem?_getD, List.getD_eq_getElem?_getD, List.getElem?_append_left (by omega)]
          · rw [r4 j (by omega), gi_ne (by omega)]
        · exact Or.inr ⟨r1, fun h => r2 h.2.2⟩
      · rw [if_neg e2]
        exact ⟨m', Or.inr ⟨rfl, fun h => e2 h.2.1⟩, fun _ _ _ => rfl, fun _ _ => rfl, fun _ _ => rfl⟩
/-- an order, as the class takes it -/
def zOr (P : zP) (x : Int32) (us : List Nat) : Prop := us.length = zn P ∧ zva (zn P) us 0 ∧ x = zN (yord us 0)
theorem zOr_T {P : zP} (hwf : zwf P) {A : Nat} (hA : A < 2147483648) {us : List Nat} (hu : zOr P (zN A) us) : zT (zn P) (zn P) A 0 := by
  have hz := hwf.1
  obtain ⟨p1, p2⟩ := zpow_128 hwf
  have hlt := yord_lt us (fun v hv => by have := zva_lt _ _ hu.2.1 v hv; omega)
  have hpw := ypow_lt (n := us.length) (by have := hu.1; omega)
  have hA' : A = yord us 0 := zN_inj hA (by omega) hu.2.2
  have key : ∀ (k : Nat) (us : List Nat) (M : Nat), us.length = k → M < 2 ^ zn P → (∀ u ∈ us, u < zn P ∧ M / 2 ^ u % 2 = 0) → us.Nodup → zT (zn P) k (yord us 0) M := by
    intro k
    induction k with
    | zero => intro us M hl _ _ _; rw [List.eq_nil_of_length_eq_zero hl]; rfl
    | succ k ih =>
      intro us M hl hM hm hd
      obtain ⟨vs, v, rfl⟩ : ∃ vs v, us = vs ++ [v] := by
        have hne : us ≠ [] := fun e => by rw [e] at hl; simp at hl
        exact ⟨us.dropLast, us.getLast hne, (List.dropLast_concat_getLast hne).symm⟩
      have hv := hm v (List.mem_append_right _ List.mem_cons_self)
      rw [List.nodup_append] at hd
      have hvl : vs.length = k := by simp at hl; omega
      rw [yord_snoc]
      have e1 : (10 * yord vs 0 + v) % 10 = v := by omega
      have e2 : (10 * yord vs 0 + v) / 10 = yord vs 0 := by omega
      show (10 * yord vs 0 + v) % 10 < _ ∧ M / 2 ^ ((10 * yord vs 0 + v) % 10) % 2 = 0 ∧ zT _ k ((10 * yord vs 0 + v) / 10) (M + 2 ^ ((10 * yord vs 0 + v) % 10))
      rw [e1, e2]
      refine ⟨hv.1, hv.2, ih vs _ hvl (wb_lt _ (by omega) M hM v hv.1 hv.2) (fun w hw' => ?_) hd.1⟩
      have hw2 := hm w (List.mem_append_left _ hw')
      refine ⟨hw2.1, ?_⟩
      rw [wb_oth M (by omega) v (by omega) w (by omega) (fun e => hd.2.2 w hw' v List.mem_cons_self e.symm) hv.2]
      exact hw2.2
  rw [hA']
  have hnd : ∀ (l : List Nat) (A : Nat), A < 2 ^ zn P → zva (zn P) l A → (∀ u ∈ l, A / 2 ^ u % 2 = 0) ∧ l.Nodup := by
    intro l
    induction l with
    | nil => intro A _ _; exact ⟨fun u hu => (by cases hu), List.nodup_nil⟩
    | cons v l ihl =>
      intro A hA hv
      obtain ⟨a1, a2⟩ := ihl _ (wb_lt _ (by omega) A hA v hv.1 hv.2.1) hv.2.2
      have hlt' := zva_lt _ _ hv.2.2
      have hne : v ∉ l := fun hin => by
        have h1 := a1 v hin
        have : (A + 2 ^ v) / 2 ^ v % 2 = 1 := by
          rw [Nat.add_div_right _ (Nat.pow_pos (by omega))]
          have := hv.2.1
          omega
        omega
      refine ⟨fun u hu' => ?_, List.nodup_cons.2 ⟨hne, a2⟩⟩
      rcases List.mem_cons.mp hu' with g | g
      · rw [g]; exact hv.2.1
      · have hv1 := hv.1
        have hu1 := hlt' u g
        rw [← wb_oth A (by omega) v (by omega) u (by omega) (fun e => hne (by rw [e]; exact g)) hv.2.1]
        exact a1 u g
  obtain ⟨b1, b2⟩ := hnd us 0 (by omega) hu.2.1
  exact key (zn P) us 0 hu.1 (by omega) (fun u hu' => ⟨zva_lt _ _ hu.2.1 u hu', b1 u hu'⟩) b2
theorem u_order (h : jC N m c d S) (x : Int32) : ∃ m', ((∃ us, zOr (jP S) x us ∧ fX8_takesOrder N 0 x m = some (zN 1, m') ∧ ∀ i u, us[i]? = some u → gi m' 76 i = zN u) ∨ ((∀ us, ¬ zOr (jP S) x us) ∧ fX8_takesOrder N 0 x m = some (zN 0, m'))) ∧ jC N m' c d S ∧ jfc m m' := by
  have hwf := h.2.2.1.1
  have hz := hwf.1
  obtain ⟨p1, p2⟩ := zpow_128 hwf
  obtain ⟨hUN, hUr, hc50, hc0⟩ := jC_UN h
  have g3 := h.2.1.2.1.2.2.1
  have g8 := h.2.1.2.1.2.2.2.2.2.2.1
  have h0 := h.2.2.2.1.1.1
  have hN76 : N 76 = 7 := h.1.2.2.2.2.2.2.2.1
  have hX := zXF
  have hneg : x < zN 0 → ∀ us, ¬ zOr (jP S) x us := fun e us hu => by
    have hlt := yord_lt us (fun v hv => by have := zva_lt _ _ hu.2.1 v hv; omega)
    have := ypow_lt (n := us.length) (by have := hu.1; omega)
    rw [hu.2.2, zlt0 (by omega)] at e
    exact e
  rcases zcase x with e | ⟨A, hA, rfl⟩
  · refine ⟨m, Or.inr ⟨hneg e, ?_⟩, h, jfc_rf m⟩
    unfold fX8_takesOrder
    have hn : (zN 0 ≤ x) = False := by
      rw [Int32.le_iff_toInt_le]
      rw [Int32.lt_iff_toInt_lt] at e
      exact propext ⟨fun q => by omega, fun q => q.elim⟩
    simp only [zN_lit, hn, if_false]
  · obtain ⟨m2, q1, q2, q3, q4⟩ := u_tk_21 (N := N) (m := m) (c := c) hwf h0 (by omega) hN76 (zn (jP S)) XF A 0 m (by omega) hA (by omega) (Nat.le_refl _) g3 g8 (fun _ _ _ => rfl)
    have hjC : jC N m2 c d S := by
      refine jC_q h (fun a k _ => q4 a k) (fun a k q _ => q2 a k (by omega)) (jPl_fr (fun a k _ _ => q2 a k (by omega)) (q2 _ _ (by omega)) (fun a k _ _ => q4 a k) h.2.2.2.2.1) ?_ (jSe_fr (fun k => q2 _ _ (by omega)) h.2.2.2.2.2.2.1)
      obtain ⟨p, pa, pb⟩ := h.2.2.2.2.2.1
      exact ⟨p, by rw [q2 _ _ (by omega)]; exact pa, pb⟩
    have hf : fX8_takesOrder N 0 (zN A) m = fX8_takesOrder_21 N XF 0 (zN A) (zN 0) (if zn (jP S) = 0 then zM else zN (zn (jP S) - 1)) m := by
      have hs : zN (zn (jP S)) - zN 1 = if zn (jP S) = 0 then zM else zN (zn (jP S) - 1) := by
        by_cases e : zn (jP S) = 0
        · rw [if_pos e, e, zN_sub01]
        · rw [if_neg e, zN_sub (by omega)]
      unfold fX8_takesOrder
      generalize XF = nf
      simp (disch := omega) only [zN_lit, zN_le, Nat.zero_le, if_true, zgr g3, zv, h0, hs]
    refine ⟨m2, ?_, hjC, fun a k q => ⟨q2 a k (by omega), q4 a k⟩⟩
    rw [hf]
    rcases q1 with ⟨r1, r2, r3, r4⟩ | ⟨r1, r2⟩
    · refine Or.inl ⟨zdgs (zn (jP S)) A, ⟨zdgs_len _ _, zT_va (by omega) r2, by rw [← zT_ord _ _ _ r2]⟩, r1, fun i u hu => ?_⟩
      have hi : i < zn (jP S) := by
        have : i < (zdgs (zn (jP S)) A).length := by
          apply Classical.byContradiction
          intro hn
          rw [List.getElem?_eq_none (by omega)] at hu
          cases hu
        rwa [zdgs_len] at this
      rw [r3 i hi, List.getD_eq_getElem?_getD, hu]; rfl
    · exact Or.inr ⟨fun us hu => r2 (zOr_T hwf hA hu), r1⟩
end UJ
