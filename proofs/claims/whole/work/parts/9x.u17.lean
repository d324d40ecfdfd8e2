/-! ===== u: feed ===== -/
def zby (x : Int32) (s : Nat) : Nat := x.toBitVec.toNat / 2 ^ s % 256
theorem zby_lt (x : Int32) (s : Nat) : zby x s < 256 := Nat.mod_lt _ (by omega)
theorem zby_u (x : Int32) (s : Nat) (hs : s = 24 ∨ s = 16 ∨ s = 8 ∨ s = 0) : ((x.toUInt32 >>> ((zN s).toUInt32 &&& (zN 31).toUInt32)).toInt32 &&& zN 255) = zN (zby x s) := by
  apply Int32.toBitVec_inj.1
  have key : ∀ n : Nat, n < 32 → (x.toBitVec >>> n) &&& BitVec.ofNat 32 255 = BitVec.ofNat 32 (x.toBitVec.toNat / 2 ^ n % 256) := fun n _ => by
    apply BitVec.eq_of_toNat_eq
    rw [BitVec.toNat_and, BitVec.toNat_ushiftRight, BitVec.toNat_ofNat, BitVec.toNat_ofNat, Nat.shiftRight_eq_div_pow, show (255 % 2 ^ 32) = 2 ^ 8 - 1 by decide, Nat.and_two_pow_sub_one_eq_mod]
    have : x.toBitVec.toNat / 2 ^ n % 256 < 256 := Nat.mod_lt _ (by omega)
    omega
  rcases hs with rfl | rfl | rfl | rfl
  · exact key 24 (by omega)
  · exact key 16 (by omega)
  · exact key 8 (by omega)
  · exact key 0 (by omega)
theorem zby_s (x : Int32) (s : Nat) (hs : s = 24 ∨ s = 16 ∨ s = 8 ∨ s = 0) : ((x >>> (zN s &&& zN 31)) &&& zN 255) = zN (zby x s) := by
  rw [← zby_u x s hs]
  apply Int32.toBitVec_inj.1
  have key : ∀ n : Nat, n ≤ 24 → (x.toBitVec.sshiftRight n) &&& BitVec.ofNat 32 255 = (x.toBitVec >>> n) &&& BitVec.ofNat 32 255 := fun n hn => by
    apply BitVec.eq_of_getLsbD_eq
    intro i hi
    rw [BitVec.getLsbD_and, BitVec.getLsbD_and]
    by_cases h8 : i < 8
    · congr 1
      rw [BitVec.getLsbD_sshiftRight, BitVec.getLsbD_ushiftRight]
      have h1 : ¬ 32 ≤ i := by omega
      have h2 : n + i < 32 := by omega
      simp [h1, h2]
    · have : (BitVec.ofNat 32 255).getLsbD i = false := by
        rw [BitVec.getLsbD_ofNat]
        have : Nat.testBit 255 i = false := by
          apply Nat.testBit_lt_two_pow
          have : 2 ^ 8 ≤ 2 ^ i := Nat.pow_le_pow_right (by omega) (by omega)
          omega
        rw [this]; simp
      rw [this, Bool.and_false, Bool.and_false]
  rcases hs with rfl | rfl | rfl | rfl
  · exact key 24 (by omega)
  · exact key 16 (by omega)
  · exact key 8 (by omega)
  · exact key 0 (by omega)
def zsel (a b c d e : Int32) (k : Nat) : Int32 := if k < 4 then a else if k < 8 then b else if k < 12 then c else if k < 16 then d else e
def zfd (a b c d e : Int32) (k : Nat) : Nat := zby (zsel a b c d e k) (24 - 8 * (k % 4))
section UQ
variable {N : Nat → Nat} {m : XM} {c d : Nat} {S : zJ} {P : zP}
theorem u_put {t : Nat} {x : Int32} (hN : N 1 = 600) (h0 : gr m 0 0 = some 1) (ht : gi m 0 1 = zN t) (ht4 : t + 4 ≤ 600) : ∃ m', fX8_putBytes N 0 x m = some m' ∧ gi m' 0 1 = zN (t + 4) ∧ (∀ j, j < 4 → gi m' 1 (t + j) = zN (zby x (24 - 8 * j))) ∧ (∀ a k, ¬ (a = 0 ∧ k = 1) → ¬ (a = 1 ∧ t ≤ k ∧ k < t + 4) → gi m' a k = gi m a k) ∧ (∀ a k, gl m' a k = gl m a k) ∧ ∀ a k, gr m' a k = gr m a k := by
  have hX := zXF
  unfold fX8_putBytes
  revert hX
  generalize XF = nf
  intro hX
  have hstep : ∀ (n s : Nat) (m : XM) (t : Nat), (s = 24 ∨ s = 16 ∨ s = 8 ∨ s = 0) → gr m 0 0 = some 1 → gi m 0 1 = zN t → t < 600 → fX8_putBytes_3 N (n + 1) 0 x (zN s) m = fX8_putBytes_3 N n 0 x (zN s + -zN 8) (si (si m 1 t (zN (zby x s))) 0 1 (zN (t + 1))) := by
    intro n s m t hs g ht' hl
    have hge : ¬ 600 ≤ t := by omega
    have hs31 : s < 2147483648 := by omega
    rw [fX8_putBytes_3]
    simp (disch := omega) only [zv, zN_lit, zlt0, if_false, ht', zN_le, hge, zgr g, zby_u x s hs, zast, gi_ne, zN_add]
  obtain ⟨n, rfl⟩ : ∃ k, nf = k + 5 := ⟨nf - 5, by omega⟩
  have e24 : zN 24 + -zN 8 = zN 16 := by decide
  have e16 : zN 16 + -zN 8 = zN 8 := by decide
  have e8 : zN 8 + -zN 8 = zN 0 := by decide
  have e0 : (zN 0 + -zN 8 < zN 0) := by decide
  refine ⟨si (si (si (si (si (si (si (si m 1 t (zN (zby x 24))) 0 1 (zN (t + 1))) 1 (t + 1) (zN (zby x 16))) 0 1 (zN (t + 1 + 1))) 1 (t + 1 + 1) (zN (zby x 8))) 0 1 (zN (t + 1 + 1 + 1))) 1 (t + 1 + 1 + 1) (zN (zby x 0))) 0 1 (zN (t + 1 + 1 + 1 + 1)), ?_, gi_si _ _ _ _, fun j hj => ?_, fun a k h1 h2 => ?_, fun _ _ => rfl, fun _ _ => rfl⟩
  · simp only [zN_lit]
    rw [hstep (n + 4) 24 m t (by omega) h0 ht (by omega), e24, hstep (n + 3) 16 (si (si m 1 t (zN (zby x 24))) 0 1 (zN (t + 1))) (t + 1) (by omega) h0 (gi_si _ _ _ _) (by omega), e16, hstep (n + 2) 8 (si (si (si (si m 1 t (zN (zby x 24))) 0 1 (zN (t + 1))) 1 (t + 1) (zN (zby x 16))) 0 1 (zN (t + 1 + 1))) (t + 1 + 1) (by omega) h0 (gi_si _ _ _ _) (by omega), e8, hstep (n + 1) 0 (si (si (si (si (si (si m 1 t (zN (zby x 24))) 0 1 (zN (t + 1))) 1 (t + 1) (zN (zby x 16))) 0 1 (zN (t + 1 + 1))) 1 (t + 1 + 1) (zN (zby x 8))) 0 1 (zN (t + 1 + 1 + 1))) (t + 1 + 1 + 1) (by omega) h0 (gi_si _ _ _ _) (by omega)]
    unfold fX8_putBytes_3
    simp only [zv, zN_lit, e0, if_true]
  · have hc : j = 0 ∨ j = 1 ∨ j = 2 ∨ j = 3 := by omega
    rcases hc with rfl | rfl | rfl | rfl
    · rw [gi_ne (by omega), gi_ne (by omega), gi_ne (by omega), gi_ne (by omega), gi_ne (by omega), gi_ne (by omega), gi_ne (by omega), Nat.add_zero, gi_si]
    · rw [gi_ne (by omega), gi_ne (by omega), gi_ne (by omega), gi_ne (by omega), gi_ne (by omega), gi_si]
    · rw [gi_ne (by omega), gi_ne (by omega), gi_ne (by omega), show t + 2 = t + 1 + 1 by omega, gi_si]
    · rw [gi_ne (by omega), show t + 3 = t + 1 + 1 + 1 by omega, gi_si]
  · rw [gi_ne (by omega), gi_ne (by omega), gi_ne (by omega), gi_ne (by omega), gi_ne (by omega), gi_ne (by omega), gi_ne (by omega), gi_ne (by omega)]
theorem y_feed {a b c' d' e : Int32} (hU : yN N) (g8 : gr m 85 8 = some 87) {t : Nat} (ht : t + 20 ≤ 600) : ∀ (dd n k : Nat) (m : XM), dd < n → k + dd = 20 → gr m 85 8 = some 87 → gi m 85 2 = zN (t + k) → ∃ m', fX9_feed_23 N n 85 a b c' d' e (zN k) m = some (zN (t + 20), m') ∧ gi m' 85 2 = zN (t + 20) ∧ (∀ j, k ≤ j → j < 20 → gi m' 87 (t + j) = zN (zfd a b c' d' e j)) ∧ (∀ a j, ¬ (a = 85 ∧ j = 2) → ¬ (a = 87 ∧ t + k ≤ j) → gi m' a j = gi m a j) ∧ (∀ a j, gl m' a j = gl m a j) ∧ ∀ a j, gr m' a j = gr m a j := by
  have n87 := hU.2.1
  intro dd
  induction dd with
  | zero =>
    intro n k m hn hk g h2
    obtain ⟨n, rfl⟩ : ∃ i, n = i + 1 := ⟨n - 1, by omega⟩
    have hk20 : k = 20 := by omega
    subst hk20
    refine ⟨m, ?_, h2, fun j h1 h3 => by omega, fun _ _ _ _ => rfl, fun _ _ => rfl, fun _ _ => rfl⟩
    unfold fX9_feed_23
    simp (disch := omega) only [zv, zN_lit, if_true, h2, zN_le, Nat.le_refl]
  | succ dd ih =>
    intro n k m hn hk g h2
    obtain ⟨n, rfl⟩ : ∃ i, n = i + 1 := ⟨n - 1, by omega⟩
    have hs : 24 - 8 * (k % 4) = 24 ∨ 24 - 8 * (k % 4) = 16 ∨ 24 - 8 * (k % 4) = 8 ∨ 24 - 8 * (k % 4) = 0 := by omega
    obtain ⟨m', p1, p2, p3, p4, p5, p6⟩ := ih n (k + 1) (si (si m 87 (t + k) (zN (zfd a b c' d' e k))) 85 2 (zN (t + (k + 1)))) (by omega) (by omega) g (gi_si _ _ _ _)
    refine ⟨m', ?_, p2, fun j h1 h3 => ?_, fun a j h1 h3 => by rw [p4 a j h1 (by omega), gi_ne (by omega), gi_ne (by omega)], p5, p6⟩
    · have hrem : xrem (zN k) (zN 4) = zN (k % 4) := zN_rem (by omega) (by omega)
      have h76 : ∀ v : Int32, v = zsel a b c' d' e k → fX9_feed_76 N (fun q0 x1 x2 x3 x4 x5 x6 m0 => fX9_feed_23 N n q0 x1 x2 x3 x4 x5 x6 m0) 85 a b c' d' e (zN k) v m = some (zN (t + 20), m') := fun v hv => by
        unfold fX9_feed_76
        simp (disch := omega) only [zgr g, zv, h2, zN_lit, zdv, hrem, zN_mul, zN_sub, zby_s v _ hs, zast, gi_ne, zN_add]
        rw [hv]
        exact p1
      unfold fX9_feed_23
      unfold zsel at h76
      have h20 : ¬ 20 ≤ k := by omega
      simp (disch := omega) only [zv, zN_lit, zN_le, h20, if_false]
      by_cases q1 : k < 4
      · rw [if_pos q1] at h76
        rw [if_neg (by omega)]; exact h76 _ rfl
      · rw [if_neg q1] at h76
        rw [if_pos (by omega)]
        by_cases q2 : k < 8
        · rw [if_pos q2] at h76
          rw [if_neg (by omega)]; exact h76 _ rfl
        · rw [if_neg q2] at h76
          rw [if_pos (by omega)]
          by_cases q3 : k < 12
          · rw [if_pos q3] at h76
            rw [if_neg (by omega)]; exact h76 _ rfl
          · rw [if_neg q3] at h76
            rw [if_pos (by omega)]
            by_cases q4 : k < 16
            · rw [if_pos q4] at h76
              rw [if_neg (by omega)]; exact h76 _ rfl
            · rw [if_neg q4] at h76
              rw [if_pos (by omega)]; exact h76 _ rfl
    · by_cases ej : j = k
      · rw [ej, p4 _ _ (by omega) (by omega), gi_ne (by omega), gi_si]
      · exact p3 j (by omega) h3
theorem o_feed (hC : jC N m c d S) (hM : jM N m S) (a b c' d' e : Int32) : jOv N (fX8_feed N 0 a b c' d' e m) (fX9_feed N 85 a b c' d' e) := by
  obtain ⟨t1, t2, t3, t4, t5, t6⟩ := hC.2.2.2.2.2.2.2.1
  have hN1 := hC.1.1
  have h00 := hC.2.1.2.1.1
  have hX := zXF
  by_cases hf : jt S + 20 ≤ 600
  · obtain ⟨m1, a1, a2, a3, a4, a5, a6⟩ := u_put (N := N) (x := a) hN1 h00 t2 (by omega)
    obtain ⟨m2, b1, b2, b3, b4, b5, b6⟩ := u_put (N := N) (m := m1) (x := b) hN1 (by rw [a6]; exact h00) a2 (by omega)
    obtain ⟨m3, c1, c2, c3, c4, c5, c6⟩ := u_put (N := N) (m := m2) (x := c') hN1 (by rw [b6, a6]; exact h00) b2 (by omega)
    obtain ⟨m4, d1, d2, d3, d4, d5, d6⟩ := u_put (N := N) (m := m3) (x := d') hN1 (by rw [c6, b6, a6]; exact h00) c2 (by omega)
    obtain ⟨m5, e1, e2, e3, e4, e5, e6⟩ := u_put (N := N) (m := m4) (x := e) hN1 (by rw [d6, c6, b6, a6]; exact h00) d2 (by omega)
    have hg : ∀ z k, z ≠ 1 → ¬ (z = 0 ∧ k = 1) → gi m5 z k = gi m z k := fun z k q1 q2 => by
      rw [e4 z k q2 (by omega), d4 z k q2 (by omega), c4 z k q2 (by omega), b4 z k q2 (by omega), a4 z k q2 (by omega)]
    have hgr : ∀ z k, gr m5 z k = gr m z k := fun z k => by rw [e6, d6, c6, b6, a6]
    have hold : ∀ k, k < jt S → gi m5 1 k = gi m 1 k := fun k hk => by
      rw [e4 1 k (by omega) (by omega), d4 1 k (by omega) (by omega), c4 1 k (by omega) (by omega), b4 1 k (by omega) (by omega), a4 1 k (by omega) (by omega)]
    have hnew : ∀ j, j < 20 → gi m5 1 (jt S + j) = zN (zfd a b c' d' e j) := fun j hj => by
      unfold zfd zsel
      by_cases q1 : j < 4
      · rw [if_pos q1, e4 1 _ (by omega) (by omega), d4 1 _ (by omega) (by omega), c4 1 _ (by omega) (by omega), b4 1 _ (by omega) (by omega), a3 j q1, show j % 4 = j by omega]
      · rw [if_neg q1]
        by_cases q2 : j < 8
        · have := b3 (j - 4) (by omega)
          rw [if_pos q2, e4 1 _ (by omega) (by omega), d4 1 _ (by omega) (by omega), c4 1 _ (by omega) (by omega), show jt S + j = jt S + 4 + (j - 4) by omega, this, show j % 4 = j - 4 by omega]
        · rw [if_neg q2]
          by_cases q3 : j < 12
          · have := c3 (j - 8) (by omega)
            rw [if_pos q3, e4 1 _ (by omega) (by omega), d4 1 _ (by omega) (by omega), show jt S + j = jt S + 4 + 4 + (j - 8) by omega, this, show j % 4 = j - 8 by omega]
          · rw [if_neg q3]
            by_cases q4 : j < 16
            · have := d3 (j - 12) (by omega)
              rw [if_pos q4, e4 1 _ (by omega) (by omega), show jt S + j = jt S + 4 + 4 + 4 + (j - 12) by omega, this, show j % 4 = j - 12 by omega]
            · have := e3 (j - 16) (by omega)
              rw [if_neg q4, show jt S + j = jt S + 4 + 4 + 4 + 4 + (j - 16) by omega, this, show j % 4 = j - 16 by omega]
    generalize hS' : ((jP S, (jt S + 20, fun k => if k < jt S then jb S k else zfd a b c' d' e (k - jt S)), jf S, (jr0 S, jr1 S), jL S) : zJ) = S'
    have hb : ∀ k, k < jt S + 20 → (if k < jt S then jb S k else zfd a b c' d' e (k - jt S)) < 256 := fun k hk => by
      by_cases q : k < jt S
      · rw [if_pos q]; exact (t6 k q).1
      · rw [if_neg q]; exact zby_lt _ _
    have hC5 : jC N m5 c d S' := by
      rw [← hS']
      obtain ⟨g1, g2, g3, g4, g5, ⟨p, p1, p2⟩, g7, -, g9⟩ := hC
      have hc : 1 < c := by have := g2.1; omega
      refine ⟨g1, jS_fr (fun z k _ => hgr z k) g2, g3, jU_fr (fun z k _ _ => hg z k (by omega) (by omega)) g4, jPl_fr (fun z k _ _ => hg z k (by omega) (by omega)) (hg _ _ (by omega) (by omega)) (fun z k _ _ => hgr z k) g5, ⟨p, by rw [hg _ _ (by omega) (by omega)]; exact p1, p2⟩, jSe_fr (fun k => hg _ _ (by omega) (by omega)) g7, ⟨hf, e2, ?_, ?_, ?_, fun k hk => ⟨hb k hk, ?_⟩⟩, jCg_fr (fun z k _ _ => hg z k (by omega) (by omega)) g9⟩
      · rw [hg _ _ (by omega) (by omega)]; exact t3
      · rw [hg _ _ (by omega) (by omega)]; exact t4
      · rw [hg _ _ (by omega) (by omega)]; exact t5
      · show gi m5 1 k = zN (if k < jt S then jb S k else zfd a b c' d' e (k - jt S))
        by_cases q : k < jt S
        · rw [if_pos q, hold k q]; exact (t6 k q).2
        · rw [if_neg q, ← hnew (k - jt S) (by have : k < jt S + 20 := hk; omega), show jt S + (k - jt S) = k by omega]
    refine jOv_ok (v := zN (jt S + 20)) (m1 := m5) hM ?_ hC5 (fun z k q => ⟨hg z k (by omega) (by omega), hgr z k⟩) (fun m6 hm6 => y_fresh hm6 (fun h0 => ?_))
    · unfold fX8_feed
      simp (disch := omega) only [zv, t2, zN_lit, zN_add, zN_le, hf, if_true, a1, zcv, b1, c1, d1, e1, e2]
    · have hyN := (jM_U h0.1).1
      obtain ⟨g1, g2, g3, g4, ⟨p, g5, g5'⟩, g6, g7, ⟨k1, k2, k3, k4, k5, k6⟩, g9, g10, g11⟩ := id h0.1
      obtain ⟨m7, f1, f2, f3, f4, f5, f6⟩ := y_feed (N := N) (m := si m6 85 0 (zN 0)) (a := a) (b := b) (c' := c') (d' := d') (e := e) hyN g2.2.1 (t := jt S) hf 20 XF 0 (si m6 85 0 (zN 0)) (by omega) (by omega) g2.2.1 k2
      have hg7 : ∀ z k, z ≠ 87 → ¬ (z = 85 ∧ k = 2) → gi m7 z k = gi (si m6 85 0 (zN 0)) z k := fun z k q1 q2 => f4 z k q2 (by omega)
      refine ⟨m7, ?_, ?_, ⟨fun z k q => ⟨hg7 z k (by omega) (by omega), f6 z k, f5 z k⟩, fun k => f5 _ _⟩, by rw [hg7 _ _ (by omega) (by omega)]; exact h0.2⟩
      · unfold fX9_feed
        simp (disch := omega) only [zv, zN_lit, k2, zN_add, zN_le, hf, if_true]
        exact f1
      · rw [← hS']
        refine ⟨g1, yR_fr (fun k => f6 85 k) g2, g3, yMP_fr (fun k => hg7 _ _ (by omega) (by omega)) (fun k => hg7 _ _ (by omega) (by omega)) g4, ⟨p, by rw [hg7 _ _ (by omega) (by omega)]; exact g5, g5'⟩, by rw [hg7 _ _ (by omega) (by omega)]; exact g6, ?_, ⟨hf, f2, by rw [hg7 _ _ (by omega) (by omega)]; exact k3, by rw [hg7 _ _ (by omega) (by omega)]; exact k4, by rw [hg7 _ _ (by omega) (by omega)]; exact k5, fun k hk => ?_⟩, g9, by rw [hg7 _ _ (by omega) (by omega)]; exact g10, ych_fr (fun z k _ _ => hg7 z k (by omega) (by omega)) g11⟩
        · rw [hg7 _ _ (by omega) (by omega)]
          rcases g7 with h | ⟨h, h'⟩
          · exact Or.inl h
          · exact Or.inr ⟨h, yShow_fr (fun z k _ _ => hg7 z k (by omega) (by omega)) (fun k _ _ _ => hg7 _ _ (by omega) (by omega)) h'⟩
        · show gi m7 87 k = zN (if k < jt S then jb S k else zfd a b c' d' e (k - jt S))
          by_cases q : k < jt S
          · rw [if_pos q, f4 _ _ (by omega) (by omega)]; exact k6 k q
          · have hk' : k < jt S + 20 := hk
            rw [if_neg q, ← f3 (k - jt S) (by omega) (by omega), show jt S + (k - jt S) = k by omega]
  · refine jOv_ok (v := zM) (m1 := m) hM ?_ hC (jfc_rf m) (fun m6 hm6 => y_fresh hm6 (fun h0 => ⟨_, ?_, h0.1, jfm_rf _, h0.2⟩))
    · unfold fX8_feed
      simp (disch := omega) only [zv, t2, zN_lit, zN_add, zN_le, hf, if_false, zneg]
    · have k2 := h0.1.2.2.2.2.2.2.2.1.2.1
      unfold fX9_feed
      simp (disch := omega) only [zv, zN_lit, k2, zN_add, zN_le, hf, if_false, zneg]
end UQ
