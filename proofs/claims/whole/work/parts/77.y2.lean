/-! ===== y: what changes, and what stays ===== -/
section YF
variable {b : Bool} {m : XM} {P : zP} {s : zS}
theorem yMr_op {k : Nat} {v : Int32} (hk : k = 28 ∨ k = 30 ∨ k = 35 ∨ k = 36 ∨ k = 37) (h : yMr b m P s) : yMr b (si m 85 k v) P s := by
  obtain ⟨q1, q2, q3, q4, q5, q6, q7, q8, q9, q10, q11, q12, q13⟩ := h
  refine ⟨fun u hu => ?_, fun x hx => ?_, fun x hx => ?_, ?_, zstk_o (by omega) q5, ?_, ?_, ?_, ?_, ?_, fun u hu => ?_, ?_, fun hb => ysur_fr (fun k _ => gi_ne (by omega)) (fun k _ => ⟨gi_ne (by omega), gi_ne (by omega)⟩) (q13 hb)⟩
  · rw [gi_ne (by omega)]; exact q1 u hu
  · rw [gi_ne (by omega)]; exact q2 x hx
  · rw [gi_ne (by omega)]; exact q3 x hx
  · rw [gi_ne (by omega)]; exact q4
  · rw [gi_ne (by omega)]; exact q6
  · rw [gi_ne (by omega)]; exact q7
  · rw [gi_ne (by omega)]; exact q8
  · rw [gi_ne (by omega)]; exact q9
  · rw [gi_ne (by omega)]; exact q10
  · rw [gi_ne (by omega), gi_ne (by omega), gi_ne (by omega)]; exact q11 u hu
  · rw [gi_ne (by omega)]; exact q12
theorem yMr_oc {a k : Nat} {v : Int32} (ha : a = 100 ∨ a = 101) (h : yMr b m P s) : yMr b (si m a k v) P s := by
  obtain ⟨q1, q2, q3, q4, q5, q6, q7, q8, q9, q10, q11, q12, q13⟩ := h
  refine ⟨fun u hu => ?_, fun x hx => ?_, fun x hx => ?_, ?_, zstk_o (by omega) q5, ?_, ?_, ?_, ?_, ?_, fun u hu => ?_, ?_, fun hb => ysur_fr (fun k _ => gi_ne (by omega)) (fun k _ => ⟨gi_ne (by omega), gi_ne (by omega)⟩) (q13 hb)⟩
  · rw [gi_ne (by omega)]; exact q1 u hu
  · rw [gi_ne (by omega)]; exact q2 x hx
  · rw [gi_ne (by omega)]; exact q3 x hx
  · rw [gi_ne (by omega)]; exact q4
  · rw [gi_ne (by omega)]; exact q6
  · rw [gi_ne (by omega)]; exact q7
  · rw [gi_ne (by omega)]; exact q8
  · rw [gi_ne (by omega)]; exact q9
  · rw [gi_ne (by omega)]; exact q10
  · rw [gi_ne (by omega), gi_ne (by omega), gi_ne (by omega)]; exact q11 u hu
  · rw [gi_ne (by omega)]; exact q12
theorem yMr_wk {w : Nat} (h : yMr b m P s) : yMr b (si m 85 29 (zN w)) P (zs_wk s w) := by
  obtain ⟨q1, q2, q3, q4, q5, q6, q7, q8, q9, q10, q11, q12, q13⟩ := h
  refine ⟨fun u hu => ?_, fun x hx => ?_, fun x hx => ?_, ?_, zstk_o (by omega) q5, gi_si _ _ _ _, ?_, ?_, ?_, ?_, fun u hu => ?_, ?_, fun hb => ysur_fr (fun k _ => gi_ne (by omega)) (fun k _ => ⟨gi_ne (by omega), gi_ne (by omega)⟩) (q13 hb)⟩
  · rw [gi_ne (by omega)]; exact q1 u hu
  · rw [gi_ne (by omega)]; exact q2 x hx
  · rw [gi_ne (by omega)]; exact q3 x hx
  · rw [gi_ne (by omega)]; exact q4
  · rw [gi_ne (by omega)]; exact q7
  · rw [gi_ne (by omega)]; exact q8
  · rw [gi_ne (by omega)]; exact q9
  · rw [gi_ne (by omega)]; exact q10
  · rw [gi_ne (by omega), gi_ne (by omega), gi_ne (by omega)]; exact q11 u hu
  · rw [gi_ne (by omega)]; exact q12
theorem yMr_los {w : Nat} (h : yMr b m P s) : yMr b (si m 85 32 (zN w)) P (zs_los s w) := by
  obtain ⟨q1, q2, q3, q4, q5, q6, q7, q8, q9, q10, q11, q12, q13⟩ := h
  refine ⟨fun u hu => ?_, fun x hx => ?_, fun x hx => ?_, ?_, zstk_o (by omega) q5, ?_, ?_, gi_si _ _ _ _, ?_, ?_, fun u hu => ?_, ?_, fun hb => ysur_fr (fun k _ => gi_ne (by omega)) (fun k _ => ⟨gi_ne (by omega), gi_ne (by omega)⟩) (q13 hb)⟩
  · rw [gi_ne (by omega)]; exact q1 u hu
  · rw [gi_ne (by omega)]; exact q2 x hx
  · rw [gi_ne (by omega)]; exact q3 x hx
  · rw [gi_ne (by omega)]; exact q4
  · rw [gi_ne (by omega)]; exact q6
  · rw [gi_ne (by omega)]; exact q7
  · rw [gi_ne (by omega)]; exact q9
  · rw [gi_ne (by omega)]; exact q10
  · rw [gi_ne (by omega), gi_ne (by omega), gi_ne (by omega)]; exact q11 u hu
  · rw [gi_ne (by omega)]; exact q12
theorem yMr_fs {w : Nat} (h : yMr b m P s) : yMr b (si m 85 33 (zN w)) P (zs_fs s w) := by
  obtain ⟨q1, q2, q3, q4, q5, q6, q7, q8, q9, q10, q11, q12, q13⟩ := h
  refine ⟨fun u hu => ?_, fun x hx => ?_, fun x hx => ?_, ?_, zstk_o (by omega) q5, ?_, ?_, ?_, gi_si _ _ _ _, ?_, fun u hu => ?_, ?_, fun hb => ysur_fr (fun k _ => gi_ne (by omega)) (fun k _ => ⟨gi_ne (by omega), gi_ne (by omega)⟩) (q13 hb)⟩
  · rw [gi_ne (by omega)]; exact q1 u hu
  · rw [gi_ne (by omega)]; exact q2 x hx
  · rw [gi_ne (by omega)]; exact q3 x hx
  · rw [gi_ne (by omega)]; exact q4
  · rw [gi_ne (by omega)]; exact q6
  · rw [gi_ne (by omega)]; exact q7
  · rw [gi_ne (by omega)]; exact q8
  · rw [gi_ne (by omega)]; exact q10
  · rw [gi_ne (by omega), gi_ne (by omega), gi_ne (by omega)]; exact q11 u hu
  · rw [gi_ne (by omega)]; exact q12
theorem yMr_sp {w : Nat} (h : yMr b m P s) : yMr b (si m 85 34 (zN w)) P (zs_sp s w) := by
  obtain ⟨q1, q2, q3, q4, q5, q6, q7, q8, q9, q10, q11, q12, q13⟩ := h
  refine ⟨fun u hu => ?_, fun x hx => ?_, fun x hx => ?_, ?_, zstk_o (by omega) q5, ?_, ?_, ?_, ?_, gi_si _ _ _ _, fun u hu => ?_, ?_, fun hb => ysur_fr (fun k _ => gi_ne (by omega)) (fun k _ => ⟨gi_ne (by omega), gi_ne (by omega)⟩) (q13 hb)⟩
  · rw [gi_ne (by omega)]; exact q1 u hu
  · rw [gi_ne (by omega)]; exact q2 x hx
  · rw [gi_ne (by omega)]; exact q3 x hx
  · rw [gi_ne (by omega)]; exact q4
  · rw [gi_ne (by omega)]; exact q6
  · rw [gi_ne (by omega)]; exact q7
  · rw [gi_ne (by omega)]; exact q8
  · rw [gi_ne (by omega)]; exact q9
  · rw [gi_ne (by omega), gi_ne (by omega), gi_ne (by omega)]; exact q11 u hu
  · rw [gi_ne (by omega)]; exact q12
theorem yMr_val {x : Nat} {v : Int32} (hx : zok P x) (h : yMr b m P s) : yMr b (si m 96 (zmid P x) v) P (zs_val s (zset (zval s) x v)) := by
  obtain ⟨q1, q2, q3, q4, q5, q6, q7, q8, q9, q10, q11, q12, q13⟩ := h
  refine ⟨fun u hu => ?_, fun y hy => ?_, fun x hx => ?_, ?_, zstk_o (by omega) q5, ?_, ?_, ?_, ?_, ?_, fun u hu => ?_, ?_, fun hb => ysur_fr (fun k _ => gi_ne (by omega)) (fun k _ => ⟨gi_ne (by omega), gi_ne (by omega)⟩) (q13 hb)⟩
  · rw [gi_ne (by omega)]; exact q1 u hu
  · show _ = zset (zval s) x v y
    by_cases e : y = x
    · rw [e, gi_si, zset_eq]
    · rw [gi_ne (fun g => e (zmid_inj hy hx g.2)), zset_ne _ _ e]; exact q2 y hy
  · rw [gi_ne (by omega)]; exact q3 x hx
  · rw [gi_ne (by omega)]; exact q4
  · rw [gi_ne (by omega)]; exact q6
  · rw [gi_ne (by omega)]; exact q7
  · rw [gi_ne (by omega)]; exact q8
  · rw [gi_ne (by omega)]; exact q9
  · rw [gi_ne (by omega)]; exact q10
  · rw [gi_ne (by omega), gi_ne (by omega), gi_ne (by omega)]; exact q11 u hu
  · rw [gi_ne (by omega)]; exact q12
theorem yMr_mk {x : Nat} (hx : zok P x) (h1 : zst s (x / 12) ≠ 0) (h : yMr b m P s) : yMr b (si m 102 (zmid P x) (zN 1)) P (zs_mk s (zset (zmk s) x true)) := by
  obtain ⟨q1, q2, q3, q4, q5, q6, q7, q8, q9, q10, q11, q12, q13⟩ := h
  refine ⟨fun u hu => ?_, fun x hx => ?_, fun y hy => ?_, ?_, zstk_o (by omega) q5, ?_, ?_, ?_, ?_, ?_, fun u hu => ?_, ?_, fun hb => ysur_fr (fun k _ => gi_ne (by omega)) (fun k _ => ⟨gi_ne (by omega), gi_ne (by omega)⟩) (q13 hb)⟩
  · rw [gi_ne (by omega)]; exact q1 u hu
  · rw [gi_ne (by omega)]; exact q2 x hx
  · by_cases e : y = x
    · subst e
      refine ⟨fun _ => ?_, fun h0 => absurd h0 h1⟩
      show _ = if zset (zmk s) y true y then zN 1 else zN 0
      rw [gi_si, zset_eq, if_pos rfl]
    · rw [gi_ne (fun g => e (zmid_inj hy hx g.2))]
      show (_ → _ = if zset (zmk s) x true y then zN 1 else zN 0) ∧ _
      rw [zset_ne _ _ e]
      exact q3 y hy
  · rw [gi_ne (by omega)]; exact q4
  · rw [gi_ne (by omega)]; exact q6
  · rw [gi_ne (by omega)]; exact q7
  · rw [gi_ne (by omega)]; exact q8
  · rw [gi_ne (by omega)]; exact q9
  · rw [gi_ne (by omega)]; exact q10
  · rw [gi_ne (by omega), gi_ne (by omega), gi_ne (by omega)]; exact q11 u hu
  · rw [gi_ne (by omega)]; exact q12
theorem yMr_done {u : Nat} (h1 : zst s u = 1) (h : yMr b m P s) : yMr b (si m 94 u (zN 2)) P (zs_st s (zset (zst s) u 2)) := by
  obtain ⟨q1, q2, q3, q4, q5, q6, q7, q8, q9, q10, q11, q12, q13⟩ := h
  refine ⟨fun v hv => ?_, fun x hx => ?_, fun y hy => ?_, ?_, zstk_o (by omega) q5, ?_, ?_, ?_, ?_, ?_, fun v hv => ?_, ?_, fun hb => ysur_fr (fun k _ => gi_ne (by omega)) (fun k _ => ⟨gi_ne (by omega), gi_ne (by omega)⟩) (q13 hb)⟩
  · show _ = zN (zset (zst s) u 2 v)
    by_cases e : v = u
    · rw [e, gi_si, zset_eq]
    · rw [gi_ne (by omega), zset_ne _ _ e]; exact q1 v hv
  · rw [gi_ne (by omega)]; exact q2 x hx
  · show (zset (zst s) u 2 (y / 12) = 1 → _) ∧ (zset (zst s) u 2 (y / 12) = 0 → _)
    rw [gi_ne (by omega)]
    by_cases e : y / 12 = u
    · rw [e, zset_eq]; exact ⟨fun g => (by omega), fun g => (by omega)⟩
    · rw [zset_ne _ _ e]; exact q3 y hy
  · rw [gi_ne (by omega)]; exact q4
  · rw [gi_ne (by omega)]; exact q6
  · rw [gi_ne (by omega)]; exact q7
  · rw [gi_ne (by omega)]; exact q8
  · rw [gi_ne (by omega)]; exact q9
  · rw [gi_ne (by omega)]; exact q10
  · show (zset (zst s) u 2 v = 3 → _) ∧ (zset (zst s) u 2 v ≠ 3 → _)
    rw [gi_ne (by omega), gi_ne (by omega), gi_ne (by omega)]
    by_cases e : v = u
    · subst e
      rw [zset_eq]; exact ⟨fun g => (by omega), fun _ => (q11 v hv).2 (by omega)⟩
    · rw [zset_ne _ _ e]; exact q11 v hv
  · rw [gi_ne (by omega)]; exact q12
/-- a unit is broken -/
theorem yMr_brk {u : Nat} {f : Nat × Int32 × Nat} (h : yMr b m P s) : yMr b (si (si (si (si m 94 u (zN 3)) 97 u (zN f.1)) 98 u f.2.1) 99 u (zN f.2.2)) P (zs_brk (zs_st s (zset (zst s) u 3)) (zset (zbrk s) u f)) := by
  obtain ⟨q1, q2, q3, q4, q5, q6, q7, q8, q9, q10, q11, q12, q13⟩ := h
  have e : ∀ a k, a ≠ 94 → a ≠ 97 → a ≠ 98 → a ≠ 99 → gi (si (si (si (si m 94 u (zN 3)) 97 u (zN f.1)) 98 u f.2.1) 99 u (zN f.2.2)) a k = gi m a k := fun a k h1 h2 h3 h4 => by
    rw [gi_ne (by omega), gi_ne (by omega), gi_ne (by omega), gi_ne (by omega)]
  refine ⟨fun v hv => ?_, fun y hy => ?_, fun y hy => ?_, ?_, zstk_fr (fun k => e _ _ (by omega) (by omega) (by omega) (by omega)) q5, ?_, ?_, ?_, ?_, ?_, fun v hv => ?_, ?_, fun hb => ysur_fr (fun k _ => e _ _ (by omega) (by omega) (by omega) (by omega)) (fun k _ => ⟨e _ _ (by omega) (by omega) (by omega) (by omega), e _ _ (by omega) (by omega) (by omega) (by omega)⟩) (q13 hb)⟩
  · show _ = zN (zset (zst s) u 3 v)
    rw [gi_ne (by omega), gi_ne (by omega), gi_ne (by omega)]
    by_cases e : v = u
    · rw [e, gi_si, zset_eq]
    · rw [gi_ne (by omega), zset_ne _ _ e]; exact q1 v hv
  · rw [e _ _ (by omega) (by omega) (by omega) (by omega)]; exact q2 y hy
  · show (zset (zst s) u 3 (y / 12) = 1 → _) ∧ (zset (zst s) u 3 (y / 12) = 0 → _)
    rw [e _ _ (by omega) (by omega) (by omega) (by omega)]
    by_cases e : y / 12 = u
    · rw [e, zset_eq]; exact ⟨fun g => (by omega), fun g => (by omega)⟩
    · rw [zset_ne _ _ e]; exact q3 y hy
  · rw [e _ _ (by omega) (by omega) (by omega) (by omega)]; exact q4
  · rw [e _ _ (by omega) (by omega) (by omega) (by omega)]; exact q6
  · rw [e _ _ (by omega) (by omega) (by omega) (by omega)]; exact q7
  · rw [e _ _ (by omega) (by omega) (by omega) (by omega)]; exact q8
  · rw [e _ _ (by omega) (by omega) (by omega) (by omega)]; exact q9
  · rw [e _ _ (by omega) (by omega) (by omega) (by omega)]; exact q10
  · show (zset (zst s) u 3 v = 3 → _ = zN (zset (zbrk s) u f v).1 ∧ _ = (zset (zbrk s) u f v).2.1 ∧ _ = zN (zset (zbrk s) u f v).2.2) ∧ (zset (zst s) u 3 v ≠ 3 → _)
    by_cases e : v = u
    · subst e
      rw [zset_eq, zset_eq]
      refine ⟨fun _ => ⟨?_, ?_, gi_si _ _ _ _⟩, fun g => absurd rfl g⟩
      · rw [gi_ne (by omega), gi_ne (by omega), gi_si]
      · rw [gi_ne (by omega), gi_si]
    · rw [zset_ne _ _ e, zset_ne _ _ e]
      rw [gi_ne (by omega), gi_ne (by omega), gi_ne (by omega), gi_ne (by omega), gi_ne (by omega), gi_ne (by omega), gi_ne (by omega), gi_ne (by omega), gi_ne (by omega), gi_ne (by omega), gi_ne (by omega), gi_ne (by omega)]
      exact q11 v hv
  · rw [e _ _ (by omega) (by omega) (by omega) (by omega)]; exact q12
/-- a unit begins (its work is counted before) -/
theorem yMr_new {u : Nat} (h0 : zst s u = 0) (h : yMr b m P s) : yMr b (si (si (si (si m 85 29 (zN (zwk s + 1))) 94 u (zN 1)) 95 (zbeg s).length (zN u)) 85 27 (zN ((zbeg s).length + 1))) P (zBegin P u s) := by
  obtain ⟨q1, q2, q3, q4, q5, q6, q7, q8, q9, q10, q11, q12, q13⟩ := h
  have e : ∀ a k, a ≠ 94 → a ≠ 95 → ¬ (a = 85 ∧ (k = 27 ∨ k = 29)) → gi (si (si (si (si m 85 29 (zN (zwk s + 1))) 94 u (zN 1)) 95 (zbeg s).length (zN u)) 85 27 (zN ((zbeg s).length + 1))) a k = gi m a k := fun a k h1 h2 h3 => by
    rw [gi_ne (by omega), gi_ne (by omega), gi_ne (by omega), gi_ne (by omega)]
  refine ⟨fun v hv => ?_, fun y hy => ?_, fun y hy => ?_, gi_si _ _ _ _, ⟨?_, ?_⟩, ?_, ?_, ?_, ?_, ?_, fun v hv => ?_, ?_, fun hb => ysur_fr (fun k _ => e _ _ (by omega) (by omega) (by omega)) (fun k _ => ⟨e _ _ (by omega) (by omega) (by omega), e _ _ (by omega) (by omega) (by omega)⟩) (q13 hb)⟩
  · show _ = zN (zset (zst s) u 1 v)
    rw [gi_ne (by omega), gi_ne (by omega)]
    by_cases e : v = u
    · rw [e, gi_si, zset_eq]
    · rw [gi_ne (by omega), gi_ne (by omega), zset_ne _ _ e]; exact q1 v hv
  · rw [e _ _ (by omega) (by omega) (by omega)]; exact q2 y hy
  · show (zset (zst s) u 1 (y / 12) = 1 → _ = if (if y / 12 = u then false else zmk s y) then zN 1 else zN 0) ∧ (zset (zst s) u 1 (y / 12) = 0 → _)
    rw [e _ _ (by omega) (by omega) (by omega)]
    by_cases e : y / 12 = u
    · rw [if_pos e, e, zset_eq]
      refine ⟨fun _ => ?_, fun g => by omega⟩
      rw [if_neg (by decide)]
      exact (q3 y hy).2 (by rw [e]; exact h0)
    · rw [if_neg e, zset_ne _ _ e]; exact q3 y hy
  · rw [gi_ne (by omega), gi_si]
  · exact zstk_o (by omega) (zstk_ge (Nat.le_refl _) (zstk_o (by omega) (zstk_o (by omega) q5)))
  · rw [gi_ne (by omega), gi_ne (by omega), gi_ne (by omega), gi_si]; rfl
  · rw [e _ _ (by omega) (by omega) (by omega)]; exact q7
  · rw [e _ _ (by omega) (by omega) (by omega)]; exact q8
  · rw [e _ _ (by omega) (by omega) (by omega)]; exact q9
  · rw [e _ _ (by omega) (by omega) (by omega)]; exact q10
  · show (zset (zst s) u 1 v = 3 → _) ∧ (zset (zst s) u 1 v ≠ 3 → _)
    rw [e _ _ (by omega) (by omega) (by omega), e _ _ (by omega) (by omega) (by omega), e _ _ (by omega) (by omega) (by omega)]
    by_cases e : v = u
    · subst e
      rw [zset_eq]; exact ⟨fun g => (by omega), fun _ => (q11 v hv).2 (by omega)⟩
    · rw [zset_ne _ _ e]; exact q11 v hv
  · rw [e _ _ (by omega) (by omega) (by omega)]; exact q12
/-- a surprise is counted; it stands at its place if surprises are kept -/
theorem yMr_sur {m' : XM} {q : zRec} (e0 : ∀ a k, a ≠ 103 → a ≠ 104 → a ≠ 105 → gi m' a k = gi m a k) (e1 : ∀ k, k < 6 * (zsur s).length → gi m' 103 k = gi m 103 k) (e2 : ∀ k, k < 20 * (zsur s).length → gi m' 104 k = gi m 104 k ∧ gi m' 105 k = gi m 105 k) (e3 : b = true → yrec m' P (zsur s).length q) (h : yMr b m P s) : yMr b (si m' 85 31 (zN ((zsur s).length + 1))) P (zs_sur s (q :: zsur s)) := by
  obtain ⟨q1, q2, q3, q4, q5, q6, q7, q8, q9, q10, q11, q12, q13⟩ := h
  have e : ∀ a k, a ≠ 103 → a ≠ 104 → a ≠ 105 → ¬ (a = 85 ∧ k = 31) → gi (si m' 85 31 (zN ((zsur s).length + 1))) a k = gi m a k := fun a k h1 h2 h3 h4 => by
    rw [gi_ne (by omega), e0 a k h1 h2 h3]
  refine ⟨fun v hv => ?_, fun y hy => ?_, fun y hy => ?_, ?_, zstk_fr (fun k => e _ _ (by omega) (by omega) (by omega) (by omega)) q5, ?_, gi_si _ _ _ _, ?_, ?_, ?_, fun v hv => ?_, ?_, fun hb => ⟨?_, ?_⟩⟩
  · rw [e _ _ (by omega) (by omega) (by omega) (by omega)]; exact q1 v hv
  · rw [e _ _ (by omega) (by omega) (by omega) (by omega)]; exact q2 y hy
  · rw [e _ _ (by omega) (by omega) (by omega) (by omega)]; exact q3 y hy
  · rw [e _ _ (by omega) (by omega) (by omega) (by omega)]; exact q4
  · rw [e _ _ (by omega) (by omega) (by omega) (by omega)]; exact q6
  · rw [e _ _ (by omega) (by omega) (by omega) (by omega)]; exact q8
  · rw [e _ _ (by omega) (by omega) (by omega) (by omega)]; exact q9
  · rw [e _ _ (by omega) (by omega) (by omega) (by omega)]; exact q10
  · rw [e _ _ (by omega) (by omega) (by omega) (by omega), e _ _ (by omega) (by omega) (by omega) (by omega), e _ _ (by omega) (by omega) (by omega) (by omega)]; exact q11 v hv
  · rw [e _ _ (by omega) (by omega) (by omega) (by omega)]; exact q12
  · exact yrec_fr (fun k _ => gi_ne (by omega)) (fun k _ => ⟨gi_ne (by omega), gi_ne (by omega)⟩) (e3 hb)
  · exact ysur_fr (fun k hk => by rw [gi_ne (by omega)]; exact e1 k hk) (fun k hk => by rw [gi_ne (by omega), gi_ne (by omega)]; exact e2 k hk) (q13 hb)
end YF
