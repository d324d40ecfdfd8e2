/-! ===== z: the class's run, its small steps ===== -/
theorem zsgt_fr {m m' : XM} {a : Nat} {P : zP} {q : zRec} (h0 : ∀ k, gi m' a k = gi m a k) (h1 : ∀ k, gi m' (a + 1) k = gi m (a + 1) k) (h : zsgt m a P q) : zsgt m' a P q := by
  obtain ⟨q1, q2, q3, q4, q5, q6, q7⟩ := h
  exact ⟨(h0 _).trans q1, (h0 _).trans q2, (h0 _).trans q3, (h0 _).trans q4, (h0 _).trans q5, (h0 _).trans q6, zstk_fr h1 q7⟩
theorem zCr_same {t : Bool} {m m' : XM} {r : Nat} {P : zP} {s : zS} (h0 : ∀ a k, r < a → a < r + 13 → a ≠ r + 9 → a ≠ r + 10 → gi m' a k = gi m a k) (h1 : ∀ k, k ≠ 7 → k ≠ 10 → k ≠ 15 → gi m' r k = gi m r k) (h : zCr t m r P s) : zCr t m' r P s := by
  obtain ⟨q1, q2, q3, q4, q5, q6, q7, q8, q9, q10, q11, q12⟩ := h
  have e : ∀ a k, 0 < a → a < 13 → a ≠ 9 → a ≠ 10 → gi m' (r + a) k = gi m (r + a) k := fun a k g1 g2 g3 g4 => h0 _ _ (by omega) (by omega) (by omega) (by omega)
  refine ⟨fun u hu => ?_, fun x hx => ?_, fun x hx hs => ?_, ?_, zstk_fr (fun k => e 4 k (by omega) (by omega) (by omega) (by omega)) q5, ?_, ?_, ?_, ?_, ?_, fun ht u hu hs => ?_, fun k q hk hk' hq => ?_⟩
  · rw [e 1 _ (by omega) (by omega) (by omega) (by omega)]; exact q1 u hu
  · rw [e 2 _ (by omega) (by omega) (by omega) (by omega)]; exact q2 x hx
  · rw [e 3 _ (by omega) (by omega) (by omega) (by omega)]; exact q3 x hx hs
  · rw [h1 _ (by omega) (by omega) (by omega)]; exact q4
  · rw [h1 _ (by omega) (by omega) (by omega)]; exact q6
  · rw [h1 _ (by omega) (by omega) (by omega)]; exact q7
  · rw [h1 _ (by omega) (by omega) (by omega)]; exact q8
  · rw [h1 _ (by omega) (by omega) (by omega)]; exact q9
  · rw [h1 _ (by omega) (by omega) (by omega)]; exact q10
  · rw [e 6 _ (by omega) (by omega) (by omega) (by omega), e 7 _ (by omega) (by omega) (by omega) (by omega), e 8 _ (by omega) (by omega) (by omega) (by omega)]; exact q11 ht u hu hs
  · rw [e 11 _ (by omega) (by omega) (by omega) (by omega)] at hk
    exact zsgt_fr (fun k => e 11 k (by omega) (by omega) (by omega) (by omega)) (fun k => e 12 k (by omega) (by omega) (by omega) (by omega)) (q12 k q hk hk' hq)
section ZF
variable {t : Bool} {m : XM} {r : Nat} {P : zP} {s : zS}
theorem zCr_op {v : Int32} {k : Nat} (hk : k = 7 ∨ k = 10 ∨ k = 15) (h : zCr t m r P s) : zCr t (si m r k v) r P s := zCr_same (fun a j h1 h2 h3 h4 => gi_ne (by omega)) (fun j h1 h2 h3 => gi_ne (by omega)) h
theorem zCr_oc {v : Int32} {a k : Nat} (ha : a = r + 9 ∨ a = r + 10) (h : zCr t m r P s) : zCr t (si m a k v) r P s := zCr_same (fun b j h1 h2 h3 h4 => gi_ne (by omega)) (fun j h1 h2 h3 => gi_ne (by omega)) h
theorem zCr_wk {w : Nat} (h : zCr t m r P s) : zCr t (si m r 11 (zN w)) r P (zs_wk s w) := by
  obtain ⟨q1, q2, q3, q4, q5, q6, q7, q8, q9, q10, q11, q12⟩ := h
  refine ⟨fun u hu => ?_, fun x hx => ?_, fun x hx hs => ?_, ?_, zstk_o (by omega) q5, gi_si _ _ _ _, ?_, ?_, ?_, ?_, fun ht u hu hs => ?_, fun k q hk hk' hq => ?_⟩
  · rw [gi_ne (by omega)]; exact q1 u hu
  · rw [gi_ne (by omega)]; exact q2 x hx
  · rw [gi_ne (by omega)]; exact q3 x hx hs
  · rw [gi_ne (by omega)]; exact q4
  · rw [gi_ne (by omega)]; exact q7
  · rw [gi_ne (by omega)]; exact q8
  · rw [gi_ne (by omega)]; exact q9
  · rw [gi_ne (by omega)]; exact q10
  · rw [gi_ne (by omega), gi_ne (by omega), gi_ne (by omega)]; exact q11 ht u hu hs
  · rw [gi_ne (by omega)] at hk
    exact zsgt_fr (fun k => gi_ne (by omega)) (fun k => gi_ne (by omega)) (q12 k q hk hk' hq)
theorem zCr_los {w : Nat} (h : zCr t m r P s) : zCr t (si m r 13 (zN w)) r P (zs_los s w) := by
  obtain ⟨q1, q2, q3, q4, q5, q6, q7, q8, q9, q10, q11, q12⟩ := h
  refine ⟨fun u hu => ?_, fun x hx => ?_, fun x hx hs => ?_, ?_, zstk_o (by omega) q5, ?_, ?_, gi_si _ _ _ _, ?_, ?_, fun ht u hu hs => ?_, fun k q hk hk' hq => ?_⟩
  · rw [gi_ne (by omega)]; exact q1 u hu
  · rw [gi_ne (by omega)]; exact q2 x hx
  · rw [gi_ne (by omega)]; exact q3 x hx hs
  · rw [gi_ne (by omega)]; exact q4
  · rw [gi_ne (by omega)]; exact q6
  · rw [gi_ne (by omega)]; exact q7
  · rw [gi_ne (by omega)]; exact q9
  · rw [gi_ne (by omega)]; exact q10
  · rw [gi_ne (by omega), gi_ne (by omega), gi_ne (by omega)]; exact q11 ht u hu hs
  · rw [gi_ne (by omega)] at hk
    exact zsgt_fr (fun k => gi_ne (by omega)) (fun k => gi_ne (by omega)) (q12 k q hk hk' hq)
theorem zCr_val {x : Nat} {v : Int32} (h : zCr t m r P s) : zCr t (si m (r + 2) x v) r P (zs_val s (zset (zval s) x v)) := by
  obtain ⟨q1, q2, q3, q4, q5, q6, q7, q8, q9, q10, q11, q12⟩ := h
  refine ⟨fun u hu => ?_, fun y hy => ?_, fun x hx hs => ?_, ?_, zstk_o (by omega) q5, ?_, ?_, ?_, ?_, ?_, fun ht u hu hs => ?_, fun k q hk hk' hq => ?_⟩
  · rw [gi_ne (by omega)]; exact q1 u hu
  · show _ = zset (zval s) x v y
    by_cases e : y = x
    · rw [e, gi_si, zset_eq]
    · rw [gi_ne (by omega), zset_ne _ _ e]; exact q2 y hy
  · rw [gi_ne (by omega)]; exact q3 x hx hs
  · rw [gi_ne (by omega)]; exact q4
  · rw [gi_ne (by omega)]; exact q6
  · rw [gi_ne (by omega)]; exact q7
  · rw [gi_ne (by omega)]; exact q8
  · rw [gi_ne (by omega)]; exact q9
  · rw [gi_ne (by omega)]; exact q10
  · rw [gi_ne (by omega), gi_ne (by omega), gi_ne (by omega)]; exact q11 ht u hu hs
  · rw [gi_ne (by omega)] at hk
    exact zsgt_fr (fun k => gi_ne (by omega)) (fun k => gi_ne (by omega)) (q12 k q hk hk' hq)
theorem zCr_mk {x : Nat} (h : zCr t m r P s) : zCr t (si m (r + 3) x (zN 1)) r P (zs_mk s (zset (zmk s) x true)) := by
  obtain ⟨q1, q2, q3, q4, q5, q6, q7, q8, q9, q10, q11, q12⟩ := h
  refine ⟨fun u hu => ?_, fun y hy => ?_, fun y hy hs => ?_, ?_, zstk_o (by omega) q5, ?_, ?_, ?_, ?_, ?_, fun ht u hu hs => ?_, fun k q hk hk' hq => ?_⟩
  · rw [gi_ne (by omega)]; exact q1 u hu
  · rw [gi_ne (by omega)]; exact q2 y hy
  · show _ = if zset (zmk s) x true y then zN 1 else zN 0
    by_cases e : y = x
    · rw [e, gi_si, zset_eq, if_pos rfl]
    · rw [gi_ne (by omega), zset_ne _ _ e]; exact q3 y hy hs
  · rw [gi_ne (by omega)]; exact q4
  · rw [gi_ne (by omega)]; exact q6
  · rw [gi_ne (by omega)]; exact q7
  · rw [gi_ne (by omega)]; exact q8
  · rw [gi_ne (by omega)]; exact q9
  · rw [gi_ne (by omega)]; exact q10
  · rw [gi_ne (by omega), gi_ne (by omega), gi_ne (by omega)]; exact q11 ht u hu hs
  · rw [gi_ne (by omega)] at hk
    exact zsgt_fr (fun k => gi_ne (by omega)) (fun k => gi_ne (by omega)) (q12 k q hk hk' hq)
/-- a unit's state becomes DONE -/
theorem zCr_done {u : Nat} (h : zCr t m r P s) : zCr t (si m (r + 1) u (zN 2)) r P (zs_st s (zset (zst s) u 2)) := by
  obtain ⟨q1, q2, q3, q4, q5, q6, q7, q8, q9, q10, q11, q12⟩ := h
  refine ⟨fun v hv => ?_, fun y hy => ?_, fun y hy hs => ?_, ?_, zstk_o (by omega) q5, ?_, ?_, ?_, ?_, ?_, fun ht v hv hs => ?_, fun k q hk hk' hq => ?_⟩
  · show _ = zN (zset (zst s) u 2 v)
    by_cases e : v = u
    · rw [e, gi_si, zset_eq]
    · rw [gi_ne (by omega), zset_ne _ _ e]; exact q1 v hv
  · rw [gi_ne (by omega)]; exact q2 y hy
  · have hs' : zset (zst s) u 2 (y / 12) = 1 := hs
    rw [gi_ne (by omega)]
    by_cases e : y / 12 = u
    · rw [e, zset_eq] at hs'; omega
    · rw [zset_ne _ _ e] at hs'; exact q3 y hy hs'
  · rw [gi_ne (by omega)]; exact q4
  · rw [gi_ne (by omega)]; exact q6
  · rw [gi_ne (by omega)]; exact q7
  · rw [gi_ne (by omega)]; exact q8
  · rw [gi_ne (by omega)]; exact q9
  · rw [gi_ne (by omega)]; exact q10
  · have hs' : zset (zst s) u 2 v = 3 := hs
    rw [gi_ne (by omega), gi_ne (by omega), gi_ne (by omega)]
    by_cases e : v = u
    · rw [e, zset_eq] at hs'; omega
    · rw [zset_ne _ _ e] at hs'; exact q11 ht v hv hs'
  · rw [gi_ne (by omega)] at hk
    exact zsgt_fr (fun k => gi_ne (by omega)) (fun k => gi_ne (by omega)) (q12 k q hk hk' hq)
/-- a unit is broken -/
theorem zCr_brk {u : Nat} {b : Nat × Int32 × Nat} (h : zCr t m r P s) : zCr t (si (si (si (si m (r + 1) u (zN 3)) (r + 6) u (zN b.1)) (r + 7) u b.2.1) (r + 8) u (zN b.2.2)) r P (zs_brk (zs_st s (zset (zst s) u 3)) (zset (zbrk s) u b)) := by
  obtain ⟨q1, q2, q3, q4, q5, q6, q7, q8, q9, q10, q11, q12⟩ := h
  have e : ∀ a k, a ≠ r + 1 → a ≠ r + 6 → a ≠ r + 7 → a ≠ r + 8 → gi (si (si (si (si m (r + 1) u (zN 3)) (r + 6) u (zN b.1)) (r + 7) u b.2.1) (r + 8) u (zN b.2.2)) a k = gi m a k := fun a k h1 h2 h3 h4 => by
    rw [gi_ne (by omega), gi_ne (by omega), gi_ne (by omega), gi_ne (by omega)]
  refine ⟨fun v hv => ?_, fun y hy => ?_, fun y hy hs => ?_, ?_, zstk_fr (fun k => e _ _ (by omega) (by omega) (by omega) (by omega)) q5, ?_, ?_, ?_, ?_, ?_, fun ht v hv hs => ?_, fun k q hk hk' hq => ?_⟩
  · show _ = zN (zset (zst s) u 3 v)
    rw [gi_ne (by omega), gi_ne (by omega), gi_ne (by omega)]
    by_cases e : v = u
    · rw [e, gi_si, zset_eq]
    · rw [gi_ne (by omega), zset_ne _ _ e]; exact q1 v hv
  · rw [e _ _ (by omega) (by omega) (by omega) (by omega)]; exact q2 y hy
  · have hs' : zset (zst s) u 3 (y / 12) = 1 := hs
    rw [e _ _ (by omega) (by omega) (by omega) (by omega)]
    by_cases e : y / 12 = u
    · rw [e, zset_eq] at hs'; omega
    · rw [zset_ne _ _ e] at hs'; exact q3 y hy hs'
  · rw [e _ _ (by omega) (by omega) (by omega) (by omega)]; exact q4
  · rw [e _ _ (by omega) (by omega) (by omega) (by omega)]; exact q6
  · rw [e _ _ (by omega) (by omega) (by omega) (by omega)]; exact q7
  · rw [e _ _ (by omega) (by omega) (by omega) (by omega)]; exact q8
  · rw [e _ _ (by omega) (by omega) (by omega) (by omega)]; exact q9
  · rw [e _ _ (by omega) (by omega) (by omega) (by omega)]; exact q10
  · have hs' : zset (zst s) u 3 v = 3 := hs
    show _ = zN (zset (zbrk s) u b v).1 ∧ _ = (zset (zbrk s) u b v).2.1 ∧ _ = zN (zset (zbrk s) u b v).2.2
    by_cases e : v = u
    · subst e
      rw [zset_eq]
      refine ⟨?_, ?_, gi_si _ _ _ _⟩
      · rw [gi_ne (by omega), gi_ne (by omega), gi_si]
      · rw [gi_ne (by omega), gi_si]
    · rw [zset_ne _ _ e] at hs' ⊢
      rw [gi_ne (by omega), gi_ne (by omega), gi_ne (by omega), gi_ne (by omega), gi_ne (by omega), gi_ne (by omega), gi_ne (by omega), gi_ne (by omega), gi_ne (by omega), gi_ne (by omega), gi_ne (by omega), gi_ne (by omega)]
      exact q11 ht v hv hs'
  · rw [e _ _ (by omega) (by omega) (by omega) (by omega)] at hk
    exact zsgt_fr (fun k => e _ _ (by omega) (by omega) (by omega) (by omega)) (fun k => e _ _ (by omega) (by omega) (by omega) (by omega)) (q12 k q hk hk' hq)
/-- a unit begins -/
theorem zCr_new {u : Nat} {m' : XM} (hu : u < 7) (h0 : zst s u = 0) (h : zCr t m r P s)
    (e0 : ∀ a k, r < a → a < r + 13 → a ≠ r + 1 → a ≠ r + 3 → a ≠ r + 4 → a ≠ r + 9 → a ≠ r + 10 → gi m' a k = gi m a k)
    (e1 : ∀ k, k ≠ 4 → k ≠ 7 → k ≠ 10 → k ≠ 11 → k ≠ 15 → gi m' r k = gi m r k)
    (e2 : gi m' r 4 = zN ((zbeg s).length + 1)) (e3 : gi m' r 11 = zN (zwk s + 1)) (e4 : gi m' (r + 1) u = zN 1) (e5 : ∀ k, k ≠ u → gi m' (r + 1) k = gi m (r + 1) k)
    (e6 : gi m' (r + 4) (zbeg s).length = zN u) (e7 : ∀ k, k ≠ (zbeg s).length → gi m' (r + 4) k = gi m (r + 4) k)
    (e8 : ∀ x, zok P x → gi m' (r + 3) x = if x / 12 = u then zN 0 else gi m (r + 3) x) : zCr t m' r P (zBegin P u s) := by
  obtain ⟨q1, q2, q3, q4, q5, q6, q7, q8, q9, q10, q11, q12⟩ := h
  have e : ∀ a k, 0 < a → a < 13 → a ≠ 1 → a ≠ 3 → a ≠ 4 → a ≠ 9 → a ≠ 10 → gi m' (r + a) k = gi m (r + a) k := fun a k g1 g2 g3 g4 g5 g6 g7 => e0 _ _ (by omega) (by omega) (by omega) (by omega) (by omega) (by omega) (by omega)
  have hstk : ∀ (l : List Nat), l.length ≤ (zbeg s).length → zstk m (r + 4) l → zstk m' (r + 4) l := by
    intro l
    induction l with
    | nil => intro _ _; trivial
    | cons x l ih =>
      intro hl h
      simp at hl
      exact ⟨by rw [e7 _ (by omega)]; exact h.1, ih (by omega) h.2⟩
  refine ⟨fun v hv => ?_, fun y hy => ?_, fun y hy hs => ?_, ?_, ⟨e6, hstk _ (Nat.le_refl _) q5⟩, ?_, ?_, ?_, ?_, ?_, fun ht v hv hs => ?_, fun k q hk hk' hq => ?_⟩
  · show _ = zN (zset (zst s) u 1 v)
    by_cases e : v = u
    · rw [e, e4, zset_eq]
    · rw [e5 _ e, zset_ne _ _ e]; exact q1 v hv
  · rw [e 2 _ (by omega) (by omega) (by omega) (by omega) (by omega) (by omega) (by omega)]; exact q2 y hy
  · have hs' : zset (zst s) u 1 (y / 12) = 1 := hs
    show _ = if (if y / 12 = u then false else zmk s y) then zN 1 else zN 0
    rw [e8 y hy]
    by_cases e : y / 12 = u
    · rw [if_pos e, if_pos e]; rfl
    · rw [zset_ne _ _ e] at hs'
      rw [if_neg e, if_neg e]
      exact q3 y hy hs'
  · exact e2
  · exact e3
  · rw [e1 _ (by omega) (by omega) (by omega) (by omega) (by omega)]; exact q7
  · rw [e1 _ (by omega) (by omega) (by omega) (by omega) (by omega)]; exact q8
  · rw [e1 _ (by omega) (by omega) (by omega) (by omega) (by omega)]; exact q9
  · rw [e1 _ (by omega) (by omega) (by omega) (by omega) (by omega)]; exact q10
  · have hs' : zset (zst s) u 1 v = 3 := hs
    rw [e 6 _ (by omega) (by omega) (by omega) (by omega) (by omega) (by omega) (by omega), e 7 _ (by omega) (by omega) (by omega) (by omega) (by omega) (by omega) (by omega), e 8 _ (by omega) (by omega) (by omega) (by omega) (by omega) (by omega) (by omega)]
    by_cases e : v = u
    · rw [e, zset_eq] at hs'; omega
    · rw [zset_ne _ _ e] at hs'; exact q11 ht v hv hs'
  · rw [e 11 _ (by omega) (by omega) (by omega) (by omega) (by omega) (by omega) (by omega)] at hk
    exact zsgt_fr (fun k => e 11 _ (by omega) (by omega) (by omega) (by omega) (by omega) (by omega) (by omega)) (fun k => e 12 _ (by omega) (by omega) (by omega) (by omega) (by omega) (by omega) (by omega)) (q12 k q hk hk' hq)
end ZF
