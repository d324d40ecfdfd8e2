/-! ===== l: the law's script, all of it ===== -/
theorem lw_if {p : Prop} [Decidable p] {a b : Option Unit} (h1 : p → a = some ()) (h2 : ¬ p → b = some ()) : (if p then a else b) = some () := by
  by_cases h : p
  · rw [if_pos h]; exact h1 h
  · rw [if_neg h]; exact h2 h
theorem lw_yes {p : Prop} [Decidable p] {a b : Option Unit} (h : p) (h1 : a = some ()) : (if p then a else b) = some () := by
  rw [if_pos h]; exact h1
theorem lw_v {α : Type} {x : α} {κ : α → Option Unit} (h : κ x = some ()) : xv x κ = some () := h
theorem lw_s {L : Nat} {xs : Nat → Int32} {i : Int32} {κ : Int32 → Option Unit} (hi : xin i L) (h : κ (xs i.toNatClampNeg) = some ()) : xsl L xs i κ = some () := by
  unfold xsl; rw [if_pos hi]; exact h
theorem lw_c {α : Type} {o1 : Option (α × XM)} {v : α} {m1 : XM} {κ : α → XM → Option Unit} (h1 : o1 = some (v, m1)) (h : κ v m1 = some ()) : xca o1 κ = some () := by
  rw [h1]; exact h
theorem lw_eq (x : Int64) : lg_cmp x x = 0 := by
  unfold lg_cmp
  rw [if_neg (show ¬ x > x from Int64.lt_irrefl), if_pos rfl]
theorem lw_tail {N : Nat → Nat} {k : Nat} {w : Int32} {m2 : XM} {r : XM → Option Unit} (hN : N 111 = 1) (hk : k < 10) (h3 : gi m2 85 0 = zN k) (h4 : k = 0 → gl m2 111 0 = w.toInt64) (hr : r m2 = some ()) : (xca (fX9_thrown N 85 m2) fun v41 m40 => if (v41 : Int32) = zN k then (if (zN k : Int32) = 0 then (xlld N m40 111 0 fun v43 => xv ((w : Int32).toInt64) fun w44 => xv (lg_cmp v43 w44) fun v45 => if (v45 : Int32) = 0 then r m40 else none) else r m40) else none) = some () := by
  refine lw_c (v := gi m2 85 0) (m1 := m2) rfl ?_
  refine lw_yes h3 ?_
  refine lw_if (fun e => ?_) (fun _ => hr)
  have e0 : k = 0 := zN_inj (by omega) (by omega) (e.trans (zN_lit 0))
  have := h4 e0
  rw [show (0 : Int32) = zN 0 from zN_lit 0, zlld (by omega) (by omega)]
  refine lw_v (lw_v ?_)
  rw [this]
  exact lw_yes (lw_eq _) hr
/-- from memories that show the same state the law goes on to its end -/
theorem lw_all {N : Nat → Nat} {L : Nat} {xs : Nat → Int32} {b : Nat} (hL : L ≤ 3072) : ∀ (n i : Nat) (m : XM) (c d : Nat) (S : zJ), i ≤ L + 6 → L + 12 ≤ i + 6 * n → jC N m c d S → jM N m S → fLaw_23 N L xs n b 0 85 111 (zN i) m = some () := by
  intro n
  induction n with
  | zero => intro i m c d S h1 h2 hC hM; omega
  | succ n ih =>
    intro i m c d S h1 h2 hC hM
    have hN : N 111 = 1 := hC.1.2.2.2.2.2.2.2.2.2.2.2
    unfold fLaw_23
    refine lw_v ?_
    refine lw_v ?_
    refine lw_v ?_
    refine lw_if (fun _ => rfl) (fun hlt => ?_)
    have hi : i + 6 ≤ L := by
      rw [zN_of, show (6 : Int32) = zN 6 from zN_lit 6] at hlt
      by_cases h6 : 6 ≤ L
      · rw [zN_sub h6, zN_lt (by omega) (by omega)] at hlt
        omega
      · exfalso
        apply hlt
        rw [Int32.lt_iff_toInt_lt, zN_toInt (by omega)]
        have h7 : L < 6 := by omega
        have : (zN L - zN 6).toInt < 0 := by
          rcases (show L = 0 ∨ L = 1 ∨ L = 2 ∨ L = 3 ∨ L = 4 ∨ L = 5 by omega) with e | e | e | e | e | e <;> (subst e; decide)
        omega
    have x0 : xin (zN i) L := by rw [zN_in (by omega)]; omega
    have x1 : xin (zN i + 1) L := by rw [show (1 : Int32) = zN 1 from zN_lit 1, zN_add, zN_in (by omega)]; omega
    have x2 : xin (zN i + 2) L := by rw [show (2 : Int32) = zN 2 from zN_lit 2, zN_add, zN_in (by omega)]; omega
    have x3 : xin (zN i + 3) L := by rw [show (3 : Int32) = zN 3 from zN_lit 3, zN_add, zN_in (by omega)]; omega
    have x4 : xin (zN i + 4) L := by rw [show (4 : Int32) = zN 4 from zN_lit 4, zN_add, zN_in (by omega)]; omega
    have x5 : xin (zN i + 5) L := by rw [show (5 : Int32) = zN 5 from zN_lit 5, zN_add, zN_in (by omega)]; omega
    have hgo : ∀ m2 c d S, jC N m2 c d S → jM N m2 S → (xv (zN i + 6) fun v => fLaw_23 N L xs n b 0 85 111 v m2) = some () := by
      intro m2 c d S hC hM
      show fLaw_23 N L xs n b 0 85 111 (zN i + 6) m2 = some ()
      rw [show (6 : Int32) = zN 6 from zN_lit 6, zN_add]
      exact ih (i + 6) m2 c d S (by omega) (by omega) hC hM
    refine lw_s x0 (lw_v ?_)
    refine lw_if (fun _ => ?_) (fun _ => ?_)
    · obtain ⟨v, m1, m2, c', d', S', e1, e2, e6, e7⟩ := o_feed hC hM (xs (zN i + 1).toNatClampNeg) (xs (zN i + 2).toNatClampNeg) (xs (zN i + 3).toNatClampNeg) (xs (zN i + 4).toNatClampNeg) (xs (zN i + 5).toNatClampNeg)
      refine lw_v (lw_s x1 (lw_v (lw_s x2 (lw_v (lw_s x3 (lw_v (lw_s x4 (lw_v (lw_s x5 (lw_c e1 (lw_v (lw_s x1 (lw_v (lw_s x2 (lw_v (lw_s x3 (lw_v (lw_s x4 (lw_v (lw_s x5 (lw_c e2 ?_)))))))))))))))))))))
      exact lw_yes rfl (hgo _ _ _ _ e6 e7)
    refine lw_if (fun _ => ?_) (fun _ => ?_)
    · obtain ⟨k, m1, w, m2, c', d', S', e1, e2, e3, e4, e5, e6, e7⟩ := o_text hC hM (xs (zN i + 1).toNatClampNeg)
      refine lw_v (lw_s x1 (lw_c e1 (lw_v (lw_s x1 (lw_c e2 ?_)))))
      exact lw_tail hN e3 e4 e5 (hgo _ _ _ _ e6 e7)
    refine lw_if (fun _ => ?_) (fun _ => ?_)
    · obtain ⟨v, m1, m2, c', d', S', e1, e2, e6, e7⟩ := o_fault hC hM 
      refine lw_c e1 (lw_c e2 ?_)
      exact lw_yes rfl (hgo _ _ _ _ e6 e7)
    refine lw_if (fun _ => ?_) (fun _ => ?_)
    · obtain ⟨k, m1, w, m2, c', d', S', e1, e2, e3, e4, e5, e6, e7⟩ := o_move hC hM (xs (zN i + 1).toNatClampNeg) (xs (zN i + 2).toNatClampNeg) (xs (zN i + 3).toNatClampNeg)
      refine lw_v (lw_s x1 (lw_v (lw_s x2 (lw_v (lw_s x3 (lw_c e1 (lw_v (lw_s x1 (lw_v (lw_s x2 (lw_v (lw_s x3 (lw_c e2 ?_)))))))))))))
      exact lw_tail hN e3 e4 e5 (hgo _ _ _ _ e6 e7)
    refine lw_if (fun _ => ?_) (fun _ => ?_)
    · obtain ⟨k, m1, w, m2, c', d', S', e1, e2, e3, e4, e5, e6, e7⟩ := o_turn hC hM (xs (zN i + 1).toNatClampNeg) (xs (zN i + 2).toNatClampNeg)
      refine lw_v (lw_s x1 (lw_v (lw_s x2 (lw_c e1 (lw_v (lw_s x1 (lw_v (lw_s x2 (lw_c e2 ?_)))))))))
      exact lw_tail hN e3 e4 e5 (hgo _ _ _ _ e6 e7)
    refine lw_if (fun _ => ?_) (fun _ => ?_)
    · obtain ⟨v, m1, m2, c', d', S', e1, e2, e6, e7⟩ := o_undo hC hM 
      refine lw_c e1 (lw_c e2 ?_)
      exact lw_yes rfl (hgo _ _ _ _ e6 e7)
    refine lw_if (fun _ => ?_) (fun _ => ?_)
    · obtain ⟨k, m1, w, m2, c', d', S', e1, e2, e3, e4, e5, e6, e7⟩ := o_told hC hM (xs (zN i + 1).toNatClampNeg)
      refine lw_v (lw_s x1 (lw_c e1 (lw_v (lw_s x1 (lw_c e2 ?_)))))
      exact lw_tail hN e3 e4 e5 (hgo _ _ _ _ e6 e7)
    refine lw_if (fun _ => ?_) (fun _ => ?_)
    · obtain ⟨k, m1, w, m2, c', d', S', e1, e2, e3, e4, e5, e6, e7⟩ := o_unit hC hM (xs (zN i + 1).toNatClampNeg) (xs (zN i + 2).toNatClampNeg)
      refine lw_v (lw_s x1 (lw_v (lw_s x2 (lw_c e1 (lw_v (lw_s x1 (lw_v (lw_s x2 (lw_c e2 ?_)))))))))
      exact lw_tail hN e3 e4 e5 (hgo _ _ _ _ e6 e7)
    refine lw_if (fun _ => ?_) (fun _ => ?_)
    · obtain ⟨k, m1, w, m2, c', d', S', e1, e2, e3, e4, e5, e6, e7⟩ := o_member hC hM (xs (zN i + 1).toNatClampNeg) (xs (zN i + 2).toNatClampNeg) (xs (zN i + 3).toNatClampNeg)
      refine lw_v (lw_s x1 (lw_v (lw_s x2 (lw_v (lw_s x3 (lw_c e1 (lw_v (lw_s x1 (lw_v (lw_s x2 (lw_v (lw_s x3 (lw_c e2 ?_)))))))))))))
      exact lw_tail hN e3 e4 e5 (hgo _ _ _ _ e6 e7)
    refine lw_if (fun _ => ?_) (fun _ => ?_)
    · obtain ⟨k, m1, w, m2, c', d', S', e1, e2, e3, e4, e5, e6, e7⟩ := o_lazy hC hM (xs (zN i + 1).toNatClampNeg)
      refine lw_v (lw_s x1 (lw_c e1 (lw_v (lw_s x1 (lw_c e2 ?_)))))
      exact lw_tail hN e3 e4 e5 (hgo _ _ _ _ e6 e7)
    refine lw_if (fun _ => ?_) (fun _ => ?_)
    · obtain ⟨k, m1, w, m2, c', d', S', e1, e2, e3, e4, e5, e6, e7⟩ := o_eager hC hM (xs (zN i + 1).toNatClampNeg) (xs (zN i + 2).toNatClampNeg)
      refine lw_v (lw_s x1 (lw_v (lw_s x2 (lw_c e1 (lw_v (lw_s x1 (lw_v (lw_s x2 (lw_c e2 ?_)))))))))
      exact lw_tail hN e3 e4 e5 (hgo _ _ _ _ e6 e7)
    refine lw_if (fun _ => ?_) (fun _ => ?_)
    · obtain ⟨k, m1, w, m2, c', d', S', e1, e2, e3, e4, e5, e6, e7⟩ := o_value hC hM (xs (zN i + 1).toNatClampNeg) (xs (zN i + 2).toNatClampNeg)
      refine lw_v (lw_s x1 (lw_v (lw_s x2 (lw_c e1 (lw_v (lw_s x1 (lw_v (lw_s x2 (lw_c e2 ?_)))))))))
      exact lw_tail hN e3 e4 e5 (hgo _ _ _ _ e6 e7)
    refine lw_if (fun _ => ?_) (fun _ => ?_)
    · obtain ⟨k, m1, w, m2, c', d', S', e1, e2, e3, e4, e5, e6, e7⟩ := o_state hC hM (xs (zN i + 1).toNatClampNeg)
      refine lw_v (lw_s x1 (lw_c e1 (lw_v (lw_s x1 (lw_c e2 ?_)))))
      exact lw_tail hN e3 e4 e5 (hgo _ _ _ _ e6 e7)
    refine lw_if (fun _ => ?_) (fun _ => ?_)
    · obtain ⟨v, m1, m2, c', d', S', e1, e2, e6, e7⟩ := o_begun hC hM (xs (zN i + 1).toNatClampNeg)
      refine lw_v (lw_s x1 (lw_c e1 (lw_v (lw_s x1 (lw_c e2 ?_)))))
      exact lw_yes rfl (hgo _ _ _ _ e6 e7)
    refine lw_if (fun _ => ?_) (fun _ => ?_)
    · obtain ⟨k, m1, w, m2, c', d', S', e1, e2, e3, e4, e5, e6, e7⟩ := o_surprise hC hM (xs (zN i + 1).toNatClampNeg) (xs (zN i + 2).toNatClampNeg)
      refine lw_v (lw_s x1 (lw_v (lw_s x2 (lw_c e1 (lw_v (lw_s x1 (lw_v (lw_s x2 (lw_c e2 ?_)))))))))
      exact lw_tail hN e3 e4 e5 (hgo _ _ _ _ e6 e7)
    refine lw_if (fun _ => ?_) (fun _ => ?_)
    · obtain ⟨k, m1, w, m2, c', d', S', e1, e2, e3, e4, e5, e6, e7⟩ := o_trace hC hM (xs (zN i + 1).toNatClampNeg) (xs (zN i + 2).toNatClampNeg)
      refine lw_v (lw_s x1 (lw_v (lw_s x2 (lw_c e1 (lw_v (lw_s x1 (lw_v (lw_s x2 (lw_c e2 ?_)))))))))
      exact lw_tail hN e3 e4 e5 (hgo _ _ _ _ e6 e7)
    refine lw_if (fun _ => ?_) (fun _ => ?_)
    · obtain ⟨k, m1, w, m2, c', d', S', e1, e2, e3, e4, e5, e6, e7⟩ := o_broken hC hM (xs (zN i + 1).toNatClampNeg) (xs (zN i + 2).toNatClampNeg)
      refine lw_v (lw_s x1 (lw_v (lw_s x2 (lw_c e1 (lw_v (lw_s x1 (lw_v (lw_s x2 (lw_c e2 ?_)))))))))
      exact lw_tail hN e3 e4 e5 (hgo _ _ _ _ e6 e7)
    refine lw_if (fun _ => ?_) (fun _ => ?_)
    · obtain ⟨k, m1, w, m2, c', d', S', e1, e2, e3, e4, e5, e6, e7⟩ := o_alike hC hM (xs (zN i + 1).toNatClampNeg)
      refine lw_v (lw_s x1 (lw_c e1 (lw_v (lw_s x1 (lw_c e2 ?_)))))
      exact lw_tail hN e3 e4 e5 (hgo _ _ _ _ e6 e7)
    refine lw_if (fun _ => ?_) (fun _ => ?_)
    · obtain ⟨k, m1, w, m2, c', d', S', e1, e2, e3, e4, e5, e6, e7⟩ := o_fewest hC hM (xs (zN i + 1).toNatClampNeg)
      refine lw_v (lw_s x1 (lw_c e1 (lw_v (lw_s x1 (lw_c e2 ?_)))))
      exact lw_tail hN e3 e4 e5 (hgo _ _ _ _ e6 e7)
    refine lw_if (fun _ => ?_) (fun _ => ?_)
    · obtain ⟨k, m1, w, m2, c', d', S', e1, e2, e3, e4, e5, e6, e7⟩ := o_touches hC hM (xs (zN i + 1).toNatClampNeg)
      refine lw_v (lw_s x1 (lw_c e1 (lw_v (lw_s x1 (lw_c e2 ?_)))))
      exact lw_tail hN e3 e4 e5 (hgo _ _ _ _ e6 e7)
    refine lw_if (fun _ => ?_) (fun _ => ?_)
    · obtain ⟨k, m1, w, m2, c', d', S', e1, e2, e3, e4, e5, e6, e7⟩ := o_reach hC hM (xs (zN i + 1).toNatClampNeg)
      refine lw_v (lw_s x1 (lw_c e1 (lw_v (lw_s x1 (lw_c e2 ?_)))))
      exact lw_tail hN e3 e4 e5 (hgo _ _ _ _ e6 e7)
    refine lw_if (fun _ => ?_) (fun _ => ?_)
    · obtain ⟨k, m1, w, m2, c', d', S', e1, e2, e3, e4, e5, e6, e7⟩ := o_ring hC hM (xs (zN i + 1).toNatClampNeg)
      refine lw_v (lw_s x1 (lw_c e1 (lw_v (lw_s x1 (lw_c e2 ?_)))))
      exact lw_tail hN e3 e4 e5 (hgo _ _ _ _ e6 e7)
    refine lw_if (fun _ => ?_) (fun _ => ?_)
    · obtain ⟨k, m1, w, m2, c', d', S', e1, e2, e3, e4, e5, e6, e7⟩ := o_least hC hM (xs (zN i + 1).toNatClampNeg)
      refine lw_v (lw_s x1 (lw_c e1 (lw_v (lw_s x1 (lw_c e2 ?_)))))
      exact lw_tail hN e3 e4 e5 (hgo _ _ _ _ e6 e7)
    refine lw_if (fun _ => ?_) (fun _ => ?_)
    · obtain ⟨k, m1, w, m2, c', d', S', e1, e2, e3, e4, e5, e6, e7⟩ := o_breaks hC hM (xs (zN i + 1).toNatClampNeg)
      refine lw_v (lw_s x1 (lw_c e1 (lw_v (lw_s x1 (lw_c e2 ?_)))))
      exact lw_tail hN e3 e4 e5 (hgo _ _ _ _ e6 e7)
    refine lw_if (fun _ => ?_) (fun _ => ?_)
    · obtain ⟨v, m1, m2, c', d', S', e1, e2, e6, e7⟩ := o_print hC hM
      refine lw_c e1 (lw_c e2 (lw_v ?_))
      exact lw_yes (lw_eq _) (hgo _ _ _ _ e6 e7)
    refine lw_if (fun _ => ?_) (fun _ => ?_)
    · obtain ⟨v, m1, m2, c', d', S', e1, e2, e6, e7⟩ := o_status hC hM (xs (zN i + 1).toNatClampNeg)
      refine lw_v (lw_s x1 (lw_c e1 (lw_v (lw_s x1 (lw_c e2 ?_)))))
      exact lw_yes rfl (hgo _ _ _ _ e6 e7)
    exact hgo _ _ _ _ hC hM
