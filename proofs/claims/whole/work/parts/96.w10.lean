/-! ===== w: the class's fewest ===== -/
section WJ
variable {N : Nat → Nat} {P : zP} {c : Nat}
theorem wc_fill_6 {a len : Nat} {v : Int64} (hl : len ≤ N a) (hl2 : len < 2147483648) : ∀ (d n i : Nat) (m : XM), d < n → i + d = len →
    ∃ m', fJ7_fill_d0a16_6 N n a v (zN i) (zN len) m = some m' ∧ zfr a (a + 1) m m' ∧ (∀ k, gr m' a k = gr m a k) ∧ (∀ k, gi m' a k = gi m a k) ∧ ∀ k, gl m' a k = if i ≤ k ∧ k < len then v else gl m a k := by
  intro d
  induction d with
  | zero =>
    intro n i m hn hi
    obtain ⟨n, rfl⟩ : ∃ k, n = k + 1 := ⟨n - 1, by omega⟩
    refine ⟨m, ?_, zfr_rf _ _ m, fun _ => rfl, fun _ => rfl, fun k => ?_⟩
    · unfold fJ7_fill_d0a16_6
      simp (disch := omega) only [zv, zN_le]
      rw [if_pos (by omega)]
    · rw [if_neg (by omega)]
  | succ d ih =>
    intro n i m hn hi
    obtain ⟨n, rfl⟩ : ∃ k, n = k + 1 := ⟨n - 1, by omega⟩
    obtain ⟨m', p1, p2, p3, p4, p5⟩ := ih n (i + 1) (sl m a i v) (by omega) (by omega)
    refine ⟨m', ?_, zfr_tr (zfr_sl (zfr_rf _ _ m) (Nat.le_refl _) (by omega)) p2, p3, p4, fun k => ?_⟩
    · unfold fJ7_fill_d0a16_6
      simp (disch := omega) only [zv, zN_le]
      rw [if_neg (by omega)]
      simp (disch := omega) only [zlst, zN_lit, zN_add]
      exact p1
    · rw [p5 k]
      by_cases e : k = i
      · subst e
        rw [if_neg (by omega), gl_sl, if_pos (by omega)]
      · rw [gl_ne (by omega)]
        by_cases e2 : i ≤ k ∧ k < len
        · rw [if_pos (by omega), if_pos e2]
        · rw [if_neg (by omega), if_neg e2]
/-- the search, made if it is not fresh -/
def wSeek (N : Nat → Nat) (m : XM) (c : Nat) (P : zP) : Prop := zUN N c ∧ zRN N 63 ∧ c + 18 ≤ 63 ∧ zwf P ∧ zUr m c ∧ zCP m c P ∧ (∃ c0, zRr m 63 c0) ∧ (∃ p, gi m 63 16 = zN p ∧ p ≤ 10) ∧ N 78 = 17496 ∧ gr m 77 4 = some 63 ∧ gr m 77 6 = some 78
theorem wc_seek {m : XM} (hS : wSeek N m c P) (hf : gi m 77 0 = zN 0 ∨ (gi m 77 0 = zN 1 ∧ wF m (zFew P))) :
    ∃ m', fX3_seekFewest N 77 c m = some m' ∧ zfr 63 79 m m' ∧ (∀ k, gi m' 76 k = gi m 76 k) ∧ gi m' 74 0 = gi m 74 0 ∧ (∀ k, gr m' 77 k = if k = 5 ∧ gi m 77 0 = zN 0 then some c else gr m 77 k) ∧ gi m' 77 0 = zN 1 ∧ wF m' (zFew P) ∧ wSeek N m' c P := by
  unfold fX3_seekFewest
  rcases hf with h0 | ⟨h0, hF⟩
  · obtain ⟨h1, h2, h3, h4, h5, h6, ⟨c0, h7⟩, ⟨p, h8, h8'⟩, h9, h10, h12⟩ := id hS
    have hz := h4.1
    have h12' : gr (sr m 77 5 (some c)) 77 6 = some 78 := by rw [gr_ne (by omega)]; exact h12
    obtain ⟨m1, a1, a2, a3, a4, a5⟩ := wc_fill_6 (N := N) (a := 78) (len := 17496) (v := -1) (by omega) (by omega) 17496 XF 0 (sr m 77 5 (some c)) (by have := zXF; omega) (by omega)
    have hfill : fJ7_fill_d0a16 N 78 (-1) (sr m 77 5 (some c)) = some m1 := by
      unfold fJ7_fill_d0a16
      rw [h9, zv]
      exact a1
    have hgr : ∀ a k, gr m1 a k = gr (sr m 77 5 (some c)) a k := fun a k => by
      by_cases e : a = 78
      · rw [e]; exact a3 k
      · exact (a2 a (by omega)).2.2 k
    have hgi : ∀ a k, gi m1 a k = gi m a k := fun a k => by
      by_cases e : a = 78
      · rw [e]; exact a4 k
      · exact (a2 a (by omega)).1 k
    have hgl : ∀ a k, a ≠ 78 → gl m1 a k = gl m a k := fun a k e => (a2 a (by omega)).2.1 k
    generalize hm2 : si (si (si m1 77 1 (zN 1000000)) 77 2 zM) 77 3 (zN 0) = m2
    have g2 : ∀ a k, gr m2 a k = gr (sr m 77 5 (some c)) a k := fun a k => by rw [← hm2]; exact hgr a k
    have i2 : ∀ a k, ¬ (a = 77 ∧ 1 ≤ k ∧ k ≤ 3) → gi m2 a k = gi m a k := fun a k hk => by
      rw [← hm2, gi_ne (by omega), gi_ne (by omega), gi_ne (by omega), hgi]
    have l2 : ∀ a k, a ≠ 78 → gl m2 a k = gl m a k := fun a k e => by rw [← hm2]; exact hgl a k e
    have hX2 : wX N m2 c P := by
      refine ⟨h1, h2, h3, h4, zUr_fr (fun a k q1 q2 => by rw [g2, gr_ne (by omega)]) h5, zCP_fr (fun a k q1 q2 => i2 a k (by omega)) h6, ⟨c0, ?_⟩, ⟨p, by rw [i2 _ _ (by omega)]; exact h8, h8'⟩, h9, by rw [g2, gr_ne (by omega)]; exact h10, by rw [g2, gr_sr], by rw [g2]; exact h12'⟩
      unfold zRr at h7 ⊢
      simp (disch := omega) only [g2, gr_ne]
      exact h7
    have hM2 : wM m2 P := fun l x hl hx => Or.inl (by
      rw [← hm2]
      show gl m1 78 (l * 8 + x) = -1
      rw [a5, if_pos (by omega)])
    have hF2 : wF m2 (1000000, zM, 0) := by
      rw [← hm2]
      refine ⟨?_, ?_, gi_si _ _ _ _⟩
      · rw [gi_ne (by omega), gi_ne (by omega), gi_si]
      · rw [gi_ne (by omega), gi_si]
    obtain ⟨c1, c2, c3⟩ := nchk_ok (zn P) (by omega)
    obtain ⟨v, ⟨m3, d1, d2, d3, d4, d5⟩, -⟩ := wq_go (N := N) (c := c) h4 (zn P) 20 (by omega) m2 [] 0 (0, 0, 0) (1000000, zM, 0) (Nat.pow_pos (by omega)) rfl (by simp) (fun u hu => (by cases hu)) (zway_nil P 0 (by omega)) (by simp) (Nat.le_refl _) (by show 0 + _ ≤ 1000000; omega) hX2 hM2 hF2
    have hS3 : zfr 63 79 m m3 := by
      refine zfr_tr (fun a ha => ⟨fun k => i2 a k (by omega), fun k => l2 a k (by omega), fun k => by rw [g2, gr_ne (by omega)]⟩) d4.1
    refine ⟨si m3 77 0 (zN 1), ?_, zfr_st hS3 (by omega) (by omega), fun k => ?_, ?_, fun k => ?_, gi_si _ _ _ _, ⟨?_, ?_, ?_⟩, ?_⟩
    · simp only [zv, h0, zN_lit, if_true, zgr h12', hfill, zcv, zneg, hm2]
      rw [show yord [] 0 = 0 from rfl] at d1
      simp only [] at d1
      rw [d1, zcv]
    · rw [gi_ne (by omega), d4.2.1, i2 _ _ (by omega)]
    · rw [gi_ne (by omega), d4.2.2.2.2.2, i2 _ _ (by omega)]
    · rw [gr_si, d4.2.2.1 _ _ (by omega), g2]
      by_cases e : k = 5
      · rw [if_pos ⟨e, h0⟩, e, gr_sr]
      · rw [if_neg (fun g => e g.1), gr_ne (by omega)]
    · rw [gi_ne (by omega)]; exact d5.1
    · rw [gi_ne (by omega)]; exact d5.2.1
    · rw [gi_ne (by omega)]; exact d5.2.2
    · obtain ⟨k1, k2, k3, k4, k5, k6, ⟨k7, k7'⟩, ⟨k8, k8', k8''⟩, k9, k10, k11, k12⟩ := d2
      exact ⟨k1, k2, k3, k4, k5, zCP_fr (fun a k _ _ => gi_ne (by omega)) k6, ⟨k7, k7'⟩, ⟨k8, by rw [gi_ne (by omega)]; exact k8', k8''⟩, k9, k10, k12⟩
  · refine ⟨m, ?_, zfr_rf _ _ m, fun _ => rfl, rfl, fun k => ?_, h0, hF, hS⟩
    · simp (disch := omega) only [zv, h0, zN_lit, zN10, if_false]
    · rw [if_neg]
      intro g
      have := g.2
      rw [h0, zN_eq (by omega) (by omega)] at this
      omega
end WJ
