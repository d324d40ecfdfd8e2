/-! ===== t: the reader over tokens ===== -/
def cR (N : Nat → Nat) (d : Nat) (m : XM) : Prop := (d = 3 ∨ d = 28) ∧ zUN N d ∧ (N 21 = 7 ∧ N 22 = 600 ∧ N 23 = 300) ∧ zUr m d ∧ gr m 2 0 = some d ∧ gr m 2 1 = some 21 ∧ gr m 2 2 = some 22 ∧ gr m 2 3 = some 23
/-- it stands at token i -/
def cS (N : Nat → Nat) (b : Nat → Nat) (n d i : Nat) (m : XM) : Prop := cR N d m ∧ tzG N m ∧ (n ≤ 600 ∧ gi m 2 12 = zN 0) ∧ (∀ k, k < n → b k < 256) ∧ (∀ j, tzo b n j → tzK b n m j) ∧ tzo b n i ∧ gi m 2 10 = zN i
def cF (m m' : XM) : Prop := (∀ a k, ¬ (a = 2 ∧ 10 ≤ k) → gi m' a k = gi m a k) ∧ (∀ a k, gr m' a k = gr m a k) ∧ ∀ a k, gl m' a k = gl m a k
def cX (f p : Nat) (m : XM) : Prop := gi m 2 12 = zN f ∧ gi m 2 13 = zN p ∧ 0 < f ∧ f < 10
theorem cF_rf (m : XM) : cF m m := ⟨fun _ _ _ => rfl, fun _ _ => rfl, fun _ _ => rfl⟩
theorem cF_tr {m m1 m2 : XM} (h : cF m m1) (g : cF m1 m2) : cF m m2 := ⟨fun a k q => (g.1 a k q).trans (h.1 a k q), fun a k => (g.2.1 a k).trans (h.2.1 a k), fun a k => (g.2.2 a k).trans (h.2.2 a k)⟩
theorem cF_si {m m1 : XM} {k : Nat} {v : Int32} (h : cF m m1) (hk : 10 ≤ k) : cF m (si m1 2 k v) := cF_tr h ⟨fun a j q => gi_ne (by omega), fun _ _ => rfl, fun _ _ => rfl⟩
section TG
variable {N : Nat → Nat} {b : Nat → Nat} {n d i : Nat} {m m' : XM}
theorem cR_g (h : cR N d m) (g : ∀ a k, gr m' a k = gr m a k) : cR N d m' := by
  obtain ⟨h1, h2, h3, h4, h5, h6, h7, h8⟩ := h
  exact ⟨h1, h2, h3, zUr_fr (fun a k _ _ => g a k) h4, by rw [g]; exact h5, by rw [g]; exact h6, by rw [g]; exact h7, by rw [g]; exact h8⟩
theorem tzK_g {j : Nat} (h : tzK b n m j) (g : ∀ a k, a = 25 ∨ a = 26 ∨ a = 27 → gi m' a k = gi m a k) : tzK b n m' j := by
  unfold tzK at h ⊢
  rw [g 25 j (by omega), g 26 j (by omega), g 27 j (by omega)]
  exact h
theorem cS_g (h : cS N b n d i m) (g : ∀ a k, gr m' a k = gr m a k) (g1 : ∀ a k, a = 25 ∨ a = 26 ∨ a = 27 ∨ (a = 2 ∧ k = 12) → gi m' a k = gi m a k) {j : Nat} (hj : gi m' 2 10 = zN j) (ho : tzo b n j) : cS N b n d j m' := by
  obtain ⟨h1, ⟨h2, h2', h2'', h2'''⟩, h3, h4, h5, h6, h7⟩ := h
  exact ⟨cR_g h1 g, ⟨h2, by rw [g]; exact h2', by rw [g]; exact h2'', by rw [g]; exact h2'''⟩, ⟨h3.1, by rw [g1 2 12 (by omega)]; exact h3.2⟩, h4, fun j q => tzK_g (h5 j q) (fun a k q => g1 a k (by omega)), ho, hj⟩
theorem cS_F (h : cS N b n d i m) (g : cF m m') (h12 : gi m' 2 12 = gi m 2 12) {j : Nat} (hj : gi m' 2 10 = zN j) (ho : tzo b n j) : cS N b n d j m' := cS_g h g.2.1 (fun a k q => by
  by_cases e : a = 2
  · rw [e, show k = 12 by omega]; exact h12
  · exact g.1 a k (by omega)) hj ho
theorem cS_i (h : cS N b n d i m) : i ≤ 600 ∧ i ≤ tzp b n i ∧ tzp b n i ≤ n ∧ n ≤ 600 := by
  have := tzo_le h.2.2.2.2.2.1
  have := h.2.2.1.1
  omega
theorem cs_k (h : cS N b n d i m) {β : Type} {κ : Int32 → Option β} : (xgr m 2 7 fun u => xv (gi m 2 10) fun v => xald N m u v κ) = κ (zN (tzk b n (tzp b n i))) := by
  have hi := cS_i h
  obtain ⟨h1, ⟨h2, h2', h2'', h2'''⟩, h3, h4, h5, h6, h7⟩ := h
  simp only [zgr h2', zv, h7]
  rw [zald (by omega) (by omega), (h5 i h6).1]
theorem cs_p (h : cS N b n d i m) {β : Type} {κ : Int32 → Option β} : (xgr m 2 8 fun u => xv (gi m 2 10) fun v => xald N m u v κ) = κ (zN (tzp b n i)) := by
  have hi := cS_i h
  obtain ⟨h1, ⟨h2, h2', h2'', h2'''⟩, h3, h4, h5, h6, h7⟩ := h
  simp only [zgr h2'', zv, h7]
  rw [zald (by omega) (by omega), (h5 i h6).2.1]
theorem cs_n (h : cS N b n d i m) (hk : tzk b n (tzp b n i) = 257 ∨ tzk b n (tzp b n i) = 258 ∨ tzk b n (tzp b n i) = 259) {β : Type} {κ : Int32 → Option β} : (xgr m 2 9 fun u => xv (gi m 2 10) fun v => xald N m u v κ) = κ (zN (tzq b n (tzp b n i))) := by
  have hi := cS_i h
  obtain ⟨h1, ⟨h2, h2', h2'', h2'''⟩, h3, h4, h5, h6, h7⟩ := h
  simp only [zgr h2''', zv, h7]
  rw [zald (by omega) (by omega), (h5 i h6).2.2 hk]
theorem tz_nE {c : Nat} (hk : tzk b n (tzp b n i) = c) (hc : c < 4294967295) : tzp b n i < n := by
  by_cases q : n ≤ tzp b n i
  · rw [tzk_E q] at hk
    omega
  · omega
theorem cS_s (h : cS N b n d i m) (hp : tzp b n i < n) : cS N b n d (i + 1) (si m 2 10 (zN (i + 1))) := cS_F h (cF_si (cF_rf m) (by omega)) (gi_ne (by omega)) (gi_si _ _ _ _) (tzo_s h.2.2.2.2.2.1 hp)
theorem c_ta_y (h : cS N b n d i m) {c : Nat} (hk : tzk b n (tzp b n i) = c) : fX1_take N 2 (zN c) m = some (zN 1, si m 2 10 (zN (i + 1))) := by
  have h7 := h.2.2.2.2.2.2
  unfold fX1_take
  rw [cs_k h, hk, if_pos rfl]
  simp only [zv, h7, zN_lit, zN_add]
theorem c_ta_n (h : cS N b n d i m) {c : Nat} (hc : c < 4294967296) (hk : ¬ tzk b n (tzp b n i) = c) : fX1_take N 2 (zN c) m = some (zN 0, m) := by
  unfold fX1_take
  rw [cs_k h, if_neg (by rw [zK (tzk_lt h.2.2.2.1 _) hc]; exact hk)]
  rfl
theorem c_mu_y (h : cS N b n d i m) {c : Nat} (hk : tzk b n (tzp b n i) = c) : fX1_mustTake N 2 (zN c) m = some (zN 1, si m 2 10 (zN (i + 1))) := by
  have h7 := h.2.2.2.2.2.2
  unfold fX1_mustTake
  rw [cs_k h, hk, if_pos rfl]
  simp only [zv, h7, zN_lit, zN_add]
theorem cs_p12 (h : cS N b n d i m) {v : Int32} {β : Type} {κ : Int32 → Option β} : (xgr (si m 2 12 v) 2 8 fun u => xv (gi (si m 2 12 v) 2 10) fun x => xald N (si m 2 12 v) u x κ) = κ (zN (tzp b n i)) := by
  have hi := cS_i h
  obtain ⟨h1, ⟨h2, h2', h2'', h2'''⟩, h3, h4, h5, h6, h7⟩ := h
  rw [zgr_si, zgr h2'', zv, gi_ne (by omega), h7, zald (by omega) (by omega), gi_ne (by omega), (h5 i h6).2.1]
theorem cS_12 (h : cS N b n d i m) {k : Nat} {v : Int32} (hk : k = 11) : cS N b n d i (si m 2 k v) := cS_F h (cF_si (cF_rf m) (by omega)) (gi_ne (by omega)) (by rw [gi_ne (by omega)]; exact h.2.2.2.2.2.2) h.2.2.2.2.2.1
theorem c_mu_n (h : cS N b n d i m) {c : Nat} (hc : c < 4294967296) (hk : ¬ tzk b n (tzp b n i) = c) : ∃ m', fX1_mustTake N 2 (zN c) m = some (zN 0, m') ∧ cX 1 (tzp b n i) m' ∧ cF m m' := by
  refine ⟨si (si m 2 12 (zN 1)) 2 13 (zN (tzp b n i)), ?_, ⟨by rw [gi_ne (by omega), gi_si], gi_si _ _ _ _, by omega, by omega⟩, cF_si (cF_si (cF_rf m) (by omega)) (by omega)⟩
  unfold fX1_mustTake
  rw [cs_k h, if_neg (by rw [zK (tzk_lt h.2.2.2.1 _) hc]; exact hk)]
  simp only [zv, zN_lit]
  have := cs_p12 h (v := zN 1) (κ := fun v10 => some (zN 0, si (si m 2 12 (zN 1)) 2 13 v10))
  simp only [zv] at this
  exact this
theorem c_ref (h : cS N b n d i m) {f : Nat} (hf : 0 < f) (hf2 : f < 10) : ∃ m', fX1_refuse N 2 (zN f) m = some (zN 0, m') ∧ cX f (tzp b n i) m' ∧ cF m m' := by
  refine ⟨si (si m 2 12 (zN f)) 2 13 (zN (tzp b n i)), ?_, ⟨by rw [gi_ne (by omega), gi_si], gi_si _ _ _ _, hf, hf2⟩, cF_si (cF_si (cF_rf m) (by omega)) (by omega)⟩
  unfold fX1_refuse
  simp only [zv, zN_lit]
  have := cs_p12 h (v := zN f) (κ := fun v10 => some (zN 0, si (si m 2 12 (zN f)) 2 13 v10))
  simp only [zv] at this
  exact this
theorem znbN0 {β : Type} (o : Option β) : xnb (zN 0) o = o := Eq.trans rfl rfl
theorem znbN1 {β : Type} (o : Option β) : xnb (zN 1) o = o := Eq.trans rfl rfl
/-- U.f of both -/
theorem j_key {w : XM} (h : cS N b n d i m) (g : rS N b n i w) (hk : tzk b n (tzp b n i) = 257) :
    (∃ L a m' w1 w2 w', fX1_readKey N 2 m = some (zN (26 * L + a), m') ∧ L < 7 ∧ a < 26 ∧ cS N b n d (i + 3) m' ∧ cF m m' ∧ tzp b n i + 3 ≤ tzp b n (i + 3) ∧ gi m' 2 11 = gi m 2 11
      ∧ fX9_letterHere N 85 w = some (zN L, w1) ∧ fX9_must N 85 (zN 46) w1 = some w2 ∧ fX9_nameHere N 85 w2 = some (zN a, w') ∧ rS N b n (i + 3) w' ∧ rF w w')
    ∨ (∃ f p m' L w1 w2 v w', fX1_readKey N 2 m = some (zM, m') ∧ cX f p m' ∧ cF m m'
      ∧ fX9_letterHere N 85 w = some (zN L, w1) ∧ fX9_must N 85 (zN 46) w1 = some w2 ∧ fX9_nameHere N 85 w2 = some (v, w') ∧ rX f p w' ∧ rE w w') := by
  have hb := h.2.2.2.1
  have h7 := h.2.2.2.2.2.2
  obtain ⟨p1, p2, p3, p4, p5, p6⟩ := tz_ca hb hk
  have hL7 : tzq b n (tzp b n i) < 7 := by omega
  have hs1 := cS_s h p1
  obtain ⟨w1, a1, a2, a3⟩ := r_let_y g hk
  have ip := tzp_s p1
  have e0 : fX1_readKey N 2 m = (xgr (si m 2 10 (zN (i + 1))) 2 7 fun u7 => xv (gi (si m 2 10 (zN (i + 1))) 2 10) fun v8 => xald N (si m 2 10 (zN (i + 1))) u7 v8 fun v9 => if (v9 : Int32) = zN 46 then (xv (gi (si m 2 10 (zN (i + 1))) 2 10) fun v10 => xv (v10 + zN 1 : Int32) fun v11 => xv (si (si m 2 10 (zN (i + 1))) 2 10 v11) fun m12 => xgr m12 2 7 fun u13 => xv (gi m12 2 10) fun v14 => xald N m12 u13 v14 fun v15 => if (v15 : Int32) = zN 258 then (xv (gi m12 2 10) fun v16 => xv (v16 + zN 1 : Int32) fun v17 => xv (si m12 2 10 v17) fun m18 => xv (zN (tzq b n (tzp b n i)) * zN 26 : Int32) fun v19 => xgr m18 2 9 fun u20 => xv (gi m18 2 10) fun v21 => xv (v21 - zN 1 : Int32) fun v22 => xald N m18 u20 v22 fun v23 => xv (v19 + v23 : Int32) fun v24 => some (v24, m18)) else (fX1_readKey_86 N 2 m12)) else (fX1_readKey_86 N 2 (si m 2 10 (zN (i + 1))))) := by
    unfold fX1_readKey
    rw [cs_n h (by omega)]
    simp only [zv, h7, zN_lit, zN_add]
  have e86 : ∀ (k : Nat) (m1 : XM), cS N b n d k m1 → cF m m1 → ∃ m', fX1_readKey_86 N 2 m1 = some (zM, m') ∧ cX 1 (tzp b n k) m' ∧ cF m m' := by
    intro k m1 hS hF
    refine ⟨si (si m1 2 12 (zN 1)) 2 13 (zN (tzp b n k)), ?_, ⟨by rw [gi_ne (by omega), gi_si], gi_si _ _ _ _, by omega, by omega⟩, cF_si (cF_si hF (by omega)) (by omega)⟩
    unfold fX1_readKey_86
    simp only [zv, zN_lit, zneg]
    have := cs_p12 hS (v := zN 1) (κ := fun v10 => some (zM, si (si m1 2 12 (zN 1)) 2 13 v10))
    simp only [zv] at this
    exact this
  rw [e0, cs_k hs1]
  by_cases hd : tzk b n (tzp b n (i + 1)) = 46
  · rw [hd, if_pos rfl]
    have q1 := tz_nE hd (by omega)
    have ip1 := tzp_s q1
    have hs2 := cS_s hs1 q1
    obtain ⟨w2, b1, b2, b3⟩ := r_mu_y a2 (c := 46) (by omega) hd
    simp only [zv, gi_si, zN_add, Nat.add_assoc, Nat.reduceAdd] at hs2 ⊢
    have hk2 := cs_k hs2 (κ := fun v15 => if (v15 : Int32) = zN 258 then (xgr (si (si (si m 2 10 (zN (i + 1))) 2 10 (zN (i + 2))) 2 10 (zN (i + 3))) 2 9 fun u20 => xald N (si (si (si m 2 10 (zN (i + 1))) 2 10 (zN (i + 2))) 2 10 (zN (i + 3))) u20 (zN (i + 3) - zN 1) fun v23 => some (zN (tzq b n (tzp b n i)) * zN 26 + v23, si (si (si m 2 10 (zN (i + 1))) 2 10 (zN (i + 2))) 2 10 (zN (i + 3)))) else (fX1_readKey_86 N 2 (si (si m 2 10 (zN (i + 1))) 2 10 (zN (i + 2)))))
    simp only [zv, gi_si] at hk2
    by_cases hs : tzk b n (tzp b n (i + 2)) = 258
    · have r1 := tz_nE hs (by omega)
      have ip2 := tzp_s r1
      obtain ⟨s1, s2, s3, s4, s5, s6⟩ := tz_sm hb hs
      obtain ⟨w3, c1, c2, c3⟩ := r_nam_y b2 hs
      have hs3 := cS_s hs2 r1
      simp only [Nat.add_assoc, Nat.reduceAdd] at hs3 ip1 ip2 c2
      have hi3 := cS_i hs3
      refine Or.inl ⟨tzq b n (tzp b n i), tzq b n (tzp b n (i + 2)), _, w1, w2, w3, ?_, hL7, by omega, hs3, cF_si (cF_si (cF_si (cF_rf m) (by omega)) (by omega)) (by omega), by omega, by rw [gi_ne (by omega), gi_ne (by omega), gi_ne (by omega)], a1, b1, c1, c2, rF_tr a3 (rF_tr b3 c3)⟩
      rw [hk2, hs, if_pos rfl]
      obtain ⟨-, ⟨n1, g1, g2, g3⟩, -, -, hK, ho2, -⟩ := hs2
      rw [zgr_si, zgr g3, zN_sub (by omega), show i + 3 - 1 = i + 2 by omega, zald (by omega) (by omega), gi_ne (by omega), (hK (i + 2) ho2).2.2 (by omega), zN_mul, zN_add, Nat.mul_comm]
    · obtain ⟨m', e1, e2, e3⟩ := e86 (i + 2) _ hs2 (cF_si (cF_si (cF_rf m) (by omega)) (by omega))
      obtain ⟨w3, c1, c2, c3⟩ := r_nam_n b2 hs
      refine Or.inr ⟨1, tzp b n (i + 2), m', _, w1, w2, zN 0, w3, ?_, e2, e3, a1, b1, c1, c2, rE_tr (rF_E (rF_tr a3 b3)) c3⟩
      rw [hk2, if_neg (by rw [zK (tzk_lt hb _) (by omega)]; exact hs)]
      exact e1
  · obtain ⟨m', e1, e2, e3⟩ := e86 (i + 1) _ hs1 (cF_si (cF_rf m) (by omega))
    obtain ⟨w2, b1, b2, b3⟩ := r_mu_n a2 (c := 46) (by omega) hd
    refine Or.inr ⟨1, tzp b n (i + 1), m', _, w1, w2, zN 0, w2, ?_, e2, e3, a1, b1, r_nam_d b2, b2, rE_tr (rF_E a3) b3⟩
    rw [if_neg (by rw [zK (tzk_lt hb _) (by omega)]; exact hd)]
    exact e1
end TG
