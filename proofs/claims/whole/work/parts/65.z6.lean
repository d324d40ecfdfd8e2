/-! ===== z: the class's run, its leaves ===== -/
section ZG
variable {t : Bool} {N : Nat → Nat} {m : XM} {r c : Nat} {P : zP} {s : zS}
theorem zc_spend (h : zCR t m r P s) : fX2_spend N r m = if zwk s < 3000 then some (zN 1, si m r 11 (zN (zwk s + 1))) else some (zN 0, si m r 15 (zN 1)) := by
  obtain ⟨⟨-, -, -, hw, -⟩, ⟨-, -, -, -, -, q6, -⟩, -⟩ := h
  unfold fX2_spend
  simp (disch := omega) only [zv, q6, zN_lit, zneg, zN_lt, zN_add]
theorem zc_openUp {x : Nat} (hU : zU N m r c P) (h : zCR t m r P s) : fX2_openUp N r (zN x) m = if (zopn s).length < 20 then some (zN 1, si (si m (r + 9) (zopn s).length (zN x)) r 7 (zN ((zopn s).length + 1))) else some (zN 0, si m r 15 (zN 1)) := by
  obtain ⟨⟨-, hl, -⟩, -, ⟨q1, -, -⟩⟩ := h
  obtain ⟨-, ⟨-, -, -, -, -, -, -, -, n9, -⟩, -, -, -, -, ⟨-, -, -, -, -, -, -, -, -, g8, -⟩⟩ := hU
  unfold fX2_openUp
  simp (disch := omega) only [zv, q1, zN_lit, zneg, zN_lt]
  split
  · simp (disch := omega) only [zgr g8, zast, gi_ne, q1, zN_add]
  · rfl
theorem zc_isEarly {x : Nat} (hU : zU N m r c P) (h : zCR t m r P s) (hx : zok P x) (hk : zknd P x = 1) : fX2_isEarly N r (zN x) m = some (if zEarly P x s then zN 1 else zN 0, m) := by
  obtain ⟨hSi, ⟨q1, q2, q3, -⟩, -⟩ := h
  obtain ⟨⟨-, -, -, -, -, -, u7, -⟩, ⟨n1, n2, n3, -⟩, -, hwf, ⟨-, -, -, -, -, -, r7, -⟩, ⟨-, -, -, -, -, hd, -⟩, ⟨g0, g1, g2, g3, -⟩⟩ := hU
  have hn := hwf.1
  have hx1 := hx.1
  have hx2 := hx.2
  have hc := (hwf.2.1 _ hx1).1
  have hst := hSi.1 (x / 12)
  have hlt : x / 12 < 7 := by omega
  have hx84 : x < 84 := by omega
  obtain ⟨d1, d2⟩ := (hd x hx).1 (by omega)
  unfold fX2_isEarly fX2_isEarly_39 zEarly
  simp (disch := omega) only [zv, zgr g1, zN_lit, zneg, zdv, zN_div, zald, q1 _ hlt, zN_eq]
  by_cases hb : zst s (x / 12) = 1
  · rw [if_pos hb]
    simp (disch := omega) only [zgr g0, zgr r7, zald, zgr g3, q3 x hx hb]
    cases hi : zini P x with
    | none =>
      rw [d1 hi]
      simp [hb]
    | some d =>
      obtain ⟨k, hk1, hk2⟩ := d2 d hi
      have hk3 := hk2.1
      rw [hk1]
      simp (disch := omega) only [zN_m, if_false]
      cases hmk : zmk s x with
      | true => simp [hb]
      | false => simp [hb]
  · rw [if_neg hb]
    simp [hb]
end ZG
/-- nothing but ints of the run's cells has changed -/
def zfq (r : Nat) (m m' : XM) : Prop := zfr r (r + 13) m m' ∧ (∀ a k, r ≤ a → a < r + 13 → gr m' a k = gr m a k) ∧ gi m' (r + 11) 0 = gi m (r + 11) 0
theorem zfq_rf (r : Nat) (m : XM) : zfq r m m := ⟨zfr_rf _ _ _, fun _ _ _ _ => rfl, rfl⟩
theorem zfq_tr {r : Nat} {m m1 m2 : XM} (h : zfq r m m1) (g : zfq r m1 m2) : zfq r m m2 := ⟨zfr_tr h.1 g.1, fun a k h1 h2 => (g.2.1 a k h1 h2).trans (h.2.1 a k h1 h2), g.2.2.trans h.2.2⟩
theorem zfq_si {r a k : Nat} {v : Int32} {m m1 : XM} (h : zfq r m m1) (h1 : r ≤ a) (h2 : a < r + 13) (h3 : ¬ (r + 11 = a ∧ 0 = k) := by omega) : zfq r m (si m1 a k v) := ⟨zfr_st h.1 h1 h2, fun b j g1 g2 => by rw [gr_si]; exact h.2.1 b j g1 g2, by rw [gi_ne h3]; exact h.2.2⟩
theorem zU_q {N : Nat → Nat} {m m' : XM} {r c : Nat} {P : zP} (h : zU N m r c P) (g : zfq r m m') : zU N m' r c P := zU_fr h g.1 g.2.1
theorem zstk_mem {m : XM} {a : Nat} : ∀ {l : List Nat} {x : Nat}, zstk m a (x :: l) → gi m a l.length = zN x := fun h => h.1
/-- the loop of failAll: the pile l is left -/
theorem zc_failAll_10 {N : Nat → Nat} {t : Bool} {r c : Nat} {P : zP} {b : Nat} {v : Int32} : ∀ (l : List Nat) (n : Nat) (m : XM) (s : zS), l.length < n → l.length ≤ 20 → (∀ x ∈ l, x < 700) → zU N m r c P → zSi P s → zCr t m r P s → gi m r 15 = zN 0 → zstk m (r + 9) l → (zfl s).1 = b → (zfl s).2.1 = v → (zfl s).2.2 + l.length ≤ 20 →
    ∃ m', fX2_failAll_10 N n r (zN b) v (zN (zfl s).2.2) (if l.length = 0 then zM else zN (l.length - 1)) m = some (zN 0, m') ∧ zfq r m m' ∧ zCR t m' r P (zUn l s) := by
  intro l
  induction l with
  | nil =>
    intro n m s hn hl hx hU hSi hC h15 hst hb hv hf
    obtain ⟨n, rfl⟩ : ∃ k, n = k + 1 := ⟨n - 1, by simp at hn; omega⟩
    refine ⟨si m r 7 (zN 0), ?_, zfq_si (zfq_rf r m) (Nat.le_refl _) (by omega), ?_⟩
    · unfold fX2_failAll_10
      simp only [zv, List.length_nil, if_true]
      rw [if_pos (by decide)]
      rfl
    · obtain ⟨a1, a2, a3, a4⟩ := hSi
      refine ⟨⟨a1, Nat.zero_le _, fun x hx => (by cases hx), a4⟩, zCr_op (Or.inl rfl) hC, gi_si _ _ _ _, trivial, ?_⟩
      rw [gi_ne (by omega)]; exact h15
  | cons x l ih =>
    intro n m s hn hl hx hU hSi hC h15 hst hb hv hf
    simp only [List.length_cons] at hn hl hf
    obtain ⟨n, rfl⟩ : ∃ k, n = k + 1 := ⟨n - 1, by omega⟩
    have hU0 := hU
    obtain ⟨-, ⟨n1, n2, n3, n4, n5, n6, n7, n8, n9, -⟩, -, -, -, -, ⟨-, g1, -, -, -, g6, g60, g61, g62, g8, -⟩⟩ := hU
    have hx7 := hx x List.mem_cons_self
    have hx' : ∀ y ∈ l, y < 700 := fun y hy => hx y (List.mem_cons_of_mem _ hy)
    obtain ⟨hs1, hs2⟩ := hst
    have hnx : (if l.length = 0 then zM else zN (l.length - 1)) = zN l.length + zM := by
      by_cases h0 : l.length = 0
      · rw [if_pos h0, h0, zN_dec0]
      · rw [if_neg h0, zN_dec (by omega)]
    have hlit : zN (l.length + 1 - 1) = zN l.length := rfl
    have hf1 : (zfl s).2.2 < 2147483648 := by omega
    unfold fX2_failAll_10 fX2_failAll_83
    simp (disch := omega) only [zv, List.length_cons, Nat.add_one_ne_zero, if_false, hlit, zN_lit, zneg, zN_lt, Nat.not_lt_zero, zgr g8, zald, hs1, zdv, zN_rem, zN_eq]
    by_cases h99 : x % 100 = 99
    · have hxu : x / 100 < 7 := by omega
      simp (disch := omega) only [h99, if_true, zN_div, zgr g1, zast, zgr_si, zrld_si, zgr g6, zrld g60, zrld g61, zrld g62, zN_add]
      have e1 : ∀ k, gi (si (si (si (si m (r + 1) (x / 100) (zN 3)) (r + 6) (x / 100) (zN b)) (r + 7) (x / 100) v) (r + 8) (x / 100) (zN (zfl s).2.2)) (r + 9) k = gi m (r + 9) k := fun k => by
        rw [gi_ne (by omega), gi_ne (by omega), gi_ne (by omega), gi_ne (by omega)]
      have hC' := zCr_brk (u := x / 100) (b := zfl s) hC
      rw [hb, hv] at hC'
      have hfq : zfq r m (si (si (si (si m (r + 1) (x / 100) (zN 3)) (r + 6) (x / 100) (zN b)) (r + 7) (x / 100) v) (r + 8) (x / 100) (zN (zfl s).2.2)) :=
        zfq_si (zfq_si (zfq_si (zfq_si (zfq_rf r m) (by omega) (by omega)) (by omega) (by omega)) (by omega) (by omega)) (by omega) (by omega)
      have hSi' : zSi P (zs_fl (zs_brk (zs_st s (zset (zst s) (x / 100) 3)) (zset (zbrk s) (x / 100) (zfl s))) ((zfl s).1, (zfl s).2.1, (zfl s).2.2 + 1)) := by
        obtain ⟨a1, a2, a3, a4, a5, a6, a7, a8, a9⟩ := hSi
        refine ⟨fun u => ?_, a2, a3, a4, a5, a6, a7, ?_, a9⟩
        · show zset (zst s) (x / 100) 3 u ≤ 3
          by_cases e : u = x / 100
          · rw [e, zset_eq]; exact Nat.le_refl 3
          · rw [zset_ne _ _ e]; exact a1 u
        · have : zfree (zset (zst s) (x / 100) 3) ≤ zfree (zst s) := zfree_le (fun u hu => by
            by_cases e : u = x / 100
            · rw [e, zset_eq] at hu; omega
            · rwa [zset_ne _ _ e] at hu)
          show (zbeg s).length + zfree (zset (zst s) (x / 100) 3) ≤ 7
          omega
      obtain ⟨m', p1, p2, p3⟩ := ih n _ (zs_fl (zs_brk (zs_st s (zset (zst s) (x / 100) 3)) (zset (zbrk s) (x / 100) (zfl s))) ((zfl s).1, (zfl s).2.1, (zfl s).2.2 + 1)) (by omega) (by omega) hx' (zU_q hU0 hfq) hSi' hC' (by rw [gi_ne (by omega), gi_ne (by omega), gi_ne (by omega), gi_ne (by omega)]; exact h15) (zstk_fr e1 hs2) hb hv (by show (zfl s).2.2 + 1 + l.length ≤ 20; omega)
      refine ⟨m', ?_, zfq_tr hfq p2, ?_⟩
      · rw [← hnx]; exact p1
      · unfold zUn; rw [if_pos h99]; exact p3
    · simp only [h99, if_false]
      obtain ⟨m', p1, p2, p3⟩ := ih n m s (by omega) (by omega) hx' hU0 hSi hC h15 hs2 hb hv (by omega)
      refine ⟨m', ?_, p2, ?_⟩
      · rw [← hnx]; exact p1
      · unfold zUn; rw [if_neg h99]; exact p3
