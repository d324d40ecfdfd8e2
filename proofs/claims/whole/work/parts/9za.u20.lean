/-! ===== u: changes noted and taken back ===== -/
def jcg (m : XM) (P : zP) (L : List zCh) : Prop := L.length ≤ 16 ∧ gi m 46 0 = zN L.length ∧ ∃ nx, nx < 16 ∧ gi m 46 1 = zN nx ∧ jch m nx 0 P L
theorem jch_tk {m : XM} {nx : Nat} : ∀ {l : List zCh} {t k : Nat} {P : zP}, jch m nx t P l → jch m nx t P (l.take k)
  | [], _, k, _, _ => by rw [List.take_nil]; exact trivial
  | _ :: _, _, 0, _, _ => trivial
  | _ :: _, _, _ + 1, _, h => ⟨h.1, h.2.1, h.2.2.1, h.2.2.2.1, jch_tk h.2.2.2.2⟩
theorem jch_nt {m m' : XM} {nx : Nat} (hn : nx < 16) (h0 : ∀ a k, 47 ≤ a → a < 50 → k ≠ nx → gi m' a k = gi m a k) : ∀ {l : List zCh} {s : Nat} {P : zP}, s + l.length ≤ 15 → jch m nx s P l → jch m' ((nx + 1) % 16) (s + 1) P l
  | [], _, _, _, _ => trivial
  | e :: l, s, P, hs, h => by
    have hs' : s + (l.length + 1) ≤ 15 := hs
    have e1 : ((nx + 1) % 16 + 15 - (s + 1)) % 16 = (nx + 15 - s) % 16 := by omega
    have e2 : (nx + 15 - s) % 16 ≠ nx := by omega
    refine ⟨h.1, ?_, ?_, ?_, jch_nt hn h0 (by omega) h.2.2.2.2⟩
    · rw [e1, h0 _ _ (by omega) (by omega) e2]; exact h.2.1
    · rw [e1, h0 _ _ (by omega) (by omega) e2]; exact h.2.2.1
    · rw [e1, h0 _ _ (by omega) (by omega) e2]; exact h.2.2.2.1
theorem jch_bk {m m' : XM} {nx : Nat} (hn : nx < 16) (h0 : ∀ a k, 47 ≤ a → a < 50 → gi m' a k = gi m a k) : ∀ {l : List zCh} {s : Nat} {P : zP}, s + l.length ≤ 15 → jch m nx (s + 1) P l → jch m' ((nx + 15) % 16) s P l
  | [], _, _, _, _ => trivial
  | e :: l, s, P, hs, h => by
    have hs' : s + (l.length + 1) ≤ 15 := hs
    have e1 : ((nx + 15) % 16 + 15 - s) % 16 = (nx + 15 - (s + 1)) % 16 := by omega
    refine ⟨h.1, ?_, ?_, ?_, jch_bk hn h0 (by omega) h.2.2.2.2⟩
    · rw [e1, h0 _ _ (by omega) (by omega)]; exact h.2.1
    · rw [e1, h0 _ _ (by omega) (by omega)]; exact h.2.2.1
    · rw [e1, h0 _ _ (by omega) (by omega)]; exact h.2.2.2.1
theorem ych_dl {m m' : XM} (h0 : ∀ a s, 91 ≤ a → a < 94 → s < 15 → gi m' a s = gi m a (s + 1)) : ∀ {l : List zCh} {P : zP}, l.length ≤ 16 → ych m P l → ych m' P l.dropLast
  | [], _, _, _ => trivial
  | [_], _, _, _ => trivial
  | e :: e' :: l, P, hl, h => by
    have hl' : l.length + 1 + 1 ≤ 16 := hl
    have hlen : (e' :: l).dropLast.length = l.length := by rw [List.length_dropLast]; rfl
    refine ⟨?_, ?_, ?_, ych_dl h0 (by show l.length + 1 ≤ 16; omega) h.2.2.2⟩
    · rw [hlen, h0 _ _ (by omega) (by omega) (by omega)]; exact h.1
    · rw [hlen, h0 _ _ (by omega) (by omega) (by omega)]; exact h.2.1
    · rw [hlen, h0 _ _ (by omega) (by omega) (by omega)]; exact h.2.2.1
theorem ych_lt {m m' : XM} : ∀ {l : List zCh} {P : zP}, (∀ a s, 91 ≤ a → a < 94 → s < l.length → gi m' a s = gi m a s) → ych m P l → ych m' P l
  | [], _, _, _ => trivial
  | e :: l, P, h0, h => by
    have h0' : ∀ a s, 91 ≤ a → a < 94 → s < l.length + 1 → gi m' a s = gi m a s := h0
    refine ⟨?_, ?_, ?_, ych_lt (fun a s q1 q2 q3 => h0' a s q1 q2 (by omega)) h.2.2.2⟩
    · rw [h0' _ _ (by omega) (by omega) (by omega)]; exact h.1
    · rw [h0' _ _ (by omega) (by omega) (by omega)]; exact h.2.1
    · rw [h0' _ _ (by omega) (by omega) (by omega)]; exact h.2.2.1
section UT
variable {N : Nat → Nat} {m : XM} {c d : Nat} {S : zJ} {P P' : zP} {L : List zCh}
theorem u_note (hN : N 47 = 16 ∧ N 48 = 16 ∧ N 49 = 16) (hr : gr m 46 2 = some 47 ∧ gr m 46 3 = some 48 ∧ gr m 46 4 = some 49) {u i : Nat} {o : Option Nat} (h : jcg m P L) (hk : zchk P' (u, i, o)) (hu : zundo P' (u, i, o) = P) : ∃ m', fX0_note N 46 (zN u) (zN i) (zopt o) m = some m' ∧ jcg m' P' ((u, i, o) :: L.take 15) ∧ (∀ a s, a < 46 ∨ 50 ≤ a → gi m' a s = gi m a s) ∧ (∀ a s, gl m' a s = gl m a s) ∧ ∀ a s, gr m' a s = gr m a s := by
  obtain ⟨n7, n8, n9⟩ := hN
  obtain ⟨r7, r8, r9⟩ := hr
  obtain ⟨h1, h2, nx, h3, h4, h5⟩ := h
  have hrem : xrem (zN (nx + 1)) (zN 16) = zN ((nx + 1) % 16) := zN_rem (by omega) (by omega)
  have hlen : (L.take 15).length + 1 = if 16 < L.length + 1 then 16 else L.length + 1 := by
    rw [List.length_take]
    by_cases e : 16 < L.length + 1
    · rw [if_pos e]; omega
    · rw [if_neg e]; omega
  refine ⟨si (si (si (si (si m 47 nx (zN u)) 48 nx (zN i)) 49 nx (zopt o)) 46 1 (zN ((nx + 1) % 16))) 46 0 (zN ((L.take 15).length + 1)), ?_, ⟨?_, ?_, (nx + 1) % 16, by omega, ?_, hk, ?_, ?_, ?_, ?_⟩, fun a s q => ?_, fun _ _ => rfl, fun _ _ => rfl⟩
  · unfold fX0_note fJ9_min_7cf53
    simp (disch := omega) only [zgr r7, zgr r8, zgr r9, zgr_si, zv, h4, zN_lit, zast, gi_ne, zN_add, zdv, hrem, h2, zN_lt]
    by_cases e : 16 < L.length + 1
    · rw [if_pos e, hlen, if_pos e]; rfl
    · rw [if_neg e, hlen, if_neg e]; rfl
  · show (L.take 15).length + 1 ≤ 16
    rw [List.length_take]; omega
  · rw [gi_si]; rfl
  · rw [gi_ne (by omega), gi_si]
  · rw [show ((nx + 1) % 16 + 15 - 0) % 16 = nx by omega, gi_ne (by omega), gi_ne (by omega), gi_ne (by omega), gi_ne (by omega), gi_si]
  · rw [show ((nx + 1) % 16 + 15 - 0) % 16 = nx by omega, gi_ne (by omega), gi_ne (by omega), gi_ne (by omega), gi_si]
  · rw [show ((nx + 1) % 16 + 15 - 0) % 16 = nx by omega, gi_ne (by omega), gi_ne (by omega), gi_si]
  · rw [hu]
    refine jch_nt h3 (fun a k q1 q2 q3 => ?_) (by rw [List.length_take]; omega) (jch_tk h5)
    rw [gi_ne (by omega), gi_ne (by omega), gi_ne (by omega), gi_ne (by omega), gi_ne (by omega)]
  · rw [gi_ne (by omega), gi_ne (by omega), gi_ne (by omega), gi_ne (by omega), gi_ne (by omega)]
theorem y_rem83 (hN : yN N) (hr : yR m) {x y v : Int32} {k : Nat} (hk : k < 16) (h : gi m 85 15 = zN k) : ∃ m', fX9_remembers_83 N 85 x y v m = some m' ∧ gi m' 85 15 = zN (k + 1) ∧ gi m' 85 16 = zN 0 ∧ gi m' 91 k = x ∧ gi m' 92 k = y ∧ gi m' 93 k = v ∧ (∀ a s, 91 ≤ a → a < 94 → s ≠ k → gi m' a s = gi m a s) ∧ (∀ a s, a < 91 ∨ 94 ≤ a → ¬ (a = 85 ∧ (s = 15 ∨ s = 16)) → gi m' a s = gi m a s) ∧ (∀ a s, gl m' a s = gl m a s) ∧ ∀ a s, gr m' a s = gr m a s := by
  obtain ⟨-, -, -, -, -, n1, n2, n3, -⟩ := hN
  obtain ⟨-, -, -, -, -, r1, r2, r3, -⟩ := hr
  refine ⟨si (si (si (si (si m 91 k x) 92 k y) 93 k v) 85 15 (zN (k + 1))) 85 16 (zN 0), ?_, ?_, gi_si _ _ _ _, ?_, ?_, ?_, fun a s q1 q2 q3 => ?_, fun a s q1 q2 => ?_, fun _ _ => rfl, fun _ _ => rfl⟩
  · unfold fX9_remembers_83
    simp (disch := omega) only [zgr r1, zgr r2, zgr r3, zgr_si, zv, h, zN_lit, zast, gi_ne, zN_add]
  · rw [gi_ne (by omega), gi_si]
  · rw [gi_ne (by omega), gi_ne (by omega), gi_ne (by omega), gi_ne (by omega), gi_si]
  · rw [gi_ne (by omega), gi_ne (by omega), gi_ne (by omega), gi_si]
  · rw [gi_ne (by omega), gi_ne (by omega), gi_si]
  · rw [gi_ne (by omega), gi_ne (by omega), gi_ne (by omega), gi_ne (by omega), gi_ne (by omega)]
  · rw [gi_ne (by omega), gi_ne (by omega), gi_ne (by omega), gi_ne (by omega), gi_ne (by omega)]
theorem y_rem12 (hN : yN N) {x y v : Int32} : ∀ (dd n k : Nat) (m : XM), dd < n → k + dd = 16 → 1 ≤ k → yR m → ∃ m', fX9_remembers_12 N n 85 x y v (zN k) m = fX9_remembers_83 N 85 x y v (si m' 85 15 (gi m' 85 15 - zN 1)) ∧ (∀ a s, 91 ≤ a → a < 94 → gi m' a s = if k ≤ s + 1 ∧ s < 15 then gi m a (s + 1) else gi m a s) ∧ (∀ a s, a < 91 ∨ 94 ≤ a → gi m' a s = gi m a s) ∧ (∀ a s, gl m' a s = gl m a s) ∧ ∀ a s, gr m' a s = gr m a s
  | 0, n, k, m, hn, hk, hk1, hr => by
    obtain ⟨n, rfl⟩ : ∃ i, n = i + 1 := ⟨n - 1, by omega⟩
    have e : k = 16 := by omega
    subst e
    refine ⟨m, ?_, fun a s _ _ => by rw [if_neg (by omega)], fun _ _ _ => rfl, fun _ _ => rfl, fun _ _ => rfl⟩
    rw [fX9_remembers_12]
    simp (disch := omega) only [zv, zN_lit, zN_le, Nat.le_refl, if_true]
  | dd + 1, n, k, m, hn, hk, hk1, hr => by
    obtain ⟨n, rfl⟩ : ∃ i, n = i + 1 := ⟨n - 1, by omega⟩
    have hle : ¬ 16 ≤ k := by omega
    have hr' := hr
    obtain ⟨-, -, -, -, -, n1, n2, n3, -⟩ := id hN
    obtain ⟨-, -, -, -, -, r1, r2, r3, -⟩ := hr'
    obtain ⟨m', p1, p2, p3, p4, p5⟩ := y_rem12 hN (x := x) (y := y) (v := v) dd n (k + 1) (si (si (si m 91 (k - 1) (gi m 91 k)) 92 (k - 1) (gi m 92 k)) 93 (k - 1) (gi m 93 k)) (by omega) (by omega) (by omega) hr
    refine ⟨m', ?_, fun a s q1 q2 => ?_, fun a s q => by rw [p3 a s q, gi_ne (by omega), gi_ne (by omega), gi_ne (by omega)], p4, p5⟩
    · rw [fX9_remembers_12]
      simp (disch := omega) only [zv, zN_lit, zN_le, hle, if_false, zgr r1, zgr r2, zgr r3, zgr_si, zN_sub, zald, zast, gi_ne, zN_add]
      exact p1
    · rw [p2 a s q1 q2]
      by_cases e : k + 1 ≤ s + 1 ∧ s < 15
      · rw [if_pos e, if_pos (by omega), gi_ne (by omega), gi_ne (by omega), gi_ne (by omega)]
      · rw [if_neg e]
        by_cases e2 : s = k - 1
        · rw [if_pos (by omega), e2, show k - 1 + 1 = k by omega]
          have ha : a = 91 ∨ a = 92 ∨ a = 93 := by omega
          rcases ha with rfl | rfl | rfl
          · rw [gi_ne (by omega), gi_ne (by omega), gi_si]
          · rw [gi_ne (by omega), gi_si]
          · rw [gi_si]
        · rw [if_neg (by omega), gi_ne (by omega), gi_ne (by omega), gi_ne (by omega)]
theorem y_note (hN : yN N) (hr : yR m) {x y v : Int32} (hl : L.length ≤ 16) (h : gi m 85 15 = zN L.length) (hy : ych m P L) : ∃ m', fX9_remembers N 85 x y v m = some m' ∧ gi m' 85 15 = zN ((L.take 15).length + 1) ∧ gi m' 85 16 = zN 0 ∧ gi m' 91 (L.take 15).length = x ∧ gi m' 92 (L.take 15).length = y ∧ gi m' 93 (L.take 15).length = v ∧ ych m' P (L.take 15) ∧ (∀ a s, a < 91 ∨ 94 ≤ a → ¬ (a = 85 ∧ (s = 15 ∨ s = 16)) → gi m' a s = gi m a s) ∧ (∀ a s, gl m' a s = gl m a s) ∧ ∀ a s, gr m' a s = gr m a s := by
  have hX := zXF
  unfold fX9_remembers
  simp (disch := omega) only [zv, h, zN_lit, zN_eq]
  by_cases e : L.length = 16
  · rw [if_pos e]
    obtain ⟨m1, p1, p2, p3, p4, p5⟩ := y_rem12 hN (x := x) (y := y) (v := v) 15 XF 1 m (by omega) (by omega) (by omega) hr
    have hb : gi m1 85 15 - zN 1 = zN 15 := by rw [p3 _ _ (by omega), h, e, zN_sub (by omega)]
    rw [hb] at p1
    obtain ⟨m2, q1, q2, q3, q4, q5, q6, q7, q8, q9, q10⟩ := y_rem83 hN (m := si m1 85 15 (zN 15)) (x := x) (y := y) (v := v) (yR_fr (fun k => p5 85 k) hr) (k := 15) (by omega) (gi_si _ _ _ _)
    have hlen : (L.take 15).length = 15 := by rw [List.length_take]; omega
    rw [hlen]
    refine ⟨m2, p1.trans q1, q2, q3, q4, q5, q6, ?_, fun a s z1 z2 => by rw [q8 a s z1 z2, gi_ne (by omega), p3 a s z1], fun a s => by rw [q9]; exact p4 a s, fun a s => by rw [q10]; exact p5 a s⟩
    have : L.take 15 = L.dropLast := by rw [List.dropLast_eq_take, e]
    rw [this]
    refine ych_dl (m := m) (fun a s z1 z2 z3 => ?_) hl hy
    rw [q7 a s z1 z2 (by omega), gi_ne (by omega), p2 a s z1 z2, if_pos (by omega)]
  · rw [if_neg e, List.take_of_length_le (by omega)]
    obtain ⟨m2, q1, q2, q3, q4, q5, q6, q7, q8, q9, q10⟩ := y_rem83 hN hr (x := x) (y := y) (v := v) (k := L.length) (by omega) h
    exact ⟨m2, q1, q2, q3, q4, q5, q6, ych_lt (fun a s z1 z2 z3 => q7 a s z1 z2 (by omega)) hy, q8, q9, q10⟩
theorem y_flip {x : Nat} (hU : yMP m P) (hx : zok P x) : yMP (si m 90 (zmid P x) (if zon P x then zN 1 else zN 0)) (ztog P x) := by
  obtain ⟨h1, h2, h3, h4, h5, h6⟩ := hU
  have e1 : (ztog P x).1 = P.1 := rfl
  have e2 : (ztog P x).2.1 = P.2.1 := rfl
  have hK : gi (si m 90 (zmid P x) (if zon P x then zN 1 else zN 0)) 88 = gi m 88 := funext fun s => gi_ne (by omega)
  unfold yMP
  rw [hK, zbase_cg e1]
  refine ⟨h1, h2, h3, fun v hv => ?_, fun y hy => ?_, fun k d hd => ?_⟩
  · rw [zbase_cg e1]; exact h4 v hv
  · have hy' : zok P y := hy
    rw [zmid_cg e1, yMem_cg e1 e2]
    refine ⟨(h5 y hy').1, ?_⟩
    show gi _ 90 (zmid P y) = if zset (zon P) x (!(zon P x)) y then zN 0 else zN 1
    by_cases e : y = x
    · rw [e, zset_eq, gi_si]
      cases zon P x <;> rfl
    · rw [zset_ne _ _ e, gi_ne (fun q => e (zmid_inj hy' hx q.2))]; exact (h5 y hy').2
  · obtain ⟨a, a1, a2⟩ := h6 k d hd
    exact ⟨a, a1, by rw [yact_cg e1 e2]; exact a2⟩
/-- the class's part after a change -/
theorem jC_chg {m' : XM} (hC : jC N m c d S) (hW : jW P') (hU : jU m' c P') (hL : jcg m' P' L) (h06 : gi m' 0 6 = zN 0) (h77 : gi m' 77 0 = zN 0) (hg : ∀ a k, (a < c + 8 ∨ c + 10 ≤ a) → (a < 46 ∨ 50 ≤ a) → ¬ (a = 0 ∧ k = 6) → ¬ (a = 77 ∧ k = 0) → gi m' a k = gi m a k) (hr : ∀ a k, gr m' a k = gr m a k) : jC N m' c d (P', (jt S, jb S), jf S, (jr0 S, jr1 S), L) := by
  obtain ⟨g1, g2, g3, g4, ⟨⟨p, p1, p2⟩, -⟩, ⟨q, q1, q2⟩, -, g8, g9⟩ := hC
  have hc : c + 18 ≤ 50 := by have := g2.1; omega
  have hc0 : 1 < c := by have := g2.1; omega
  refine ⟨g1, jS_fr (fun a k _ => hr a k) g2, hW, hU, ⟨⟨p, ?_, p2⟩, Or.inl h06⟩, ⟨q, ?_, q2⟩, Or.inl h77, ?_, hL⟩
  · rw [hg _ _ (by omega) (by omega) (by omega) (by omega)]; exact p1
  · rw [hg _ _ (by omega) (by omega) (by omega) (by omega)]; exact q1
  · have := jTp_fr (S := S) (m' := m') (fun k hk => hg _ _ (by omega) (by omega) (by omega) (by omega)) (fun k => hg _ _ (by omega) (by omega) (by omega) (by omega)) g8
    exact this
/-- the reference's part after a change -/
theorem jM_chg {m' : XM} (hM : jM0 N m S) (hW : jW P') (hU : yMP m' P') (hl : L.length ≤ 16) (h15 : gi m' 85 15 = zN L.length) (h16 : gi m' 85 16 = zN 0) (hL : ych m' P' L) (hg : ∀ a k, a ≠ 88 → a ≠ 90 → (a < 91 ∨ 94 ≤ a) → ¬ (a = 85 ∧ (k = 15 ∨ k = 16)) → gi m' a k = gi m a k) (hr : ∀ a k, gr m' a k = gr m a k) (hgl : ∀ a k, gl m' a k = gl m a k) : jM N m' (P', (jt S, jb S), jf S, (jr0 S, jr1 S), L) ∧ jfm m m' ∧ gi m' 85 0 = zN 0 := by
  obtain ⟨⟨g1, g2, g3, g4, ⟨p, g5, g5'⟩, g6, g7, ⟨k1, k2, k3, k4, k5, k6⟩, g9, g10, g11⟩, h0⟩ := hM
  refine ⟨⟨g1, yR_fr (fun k => hr 85 k) g2, hW, hU, ⟨p, by rw [hg _ _ (by omega) (by omega) (by omega) (by omega)]; exact g5, g5'⟩, by rw [hg _ _ (by omega) (by omega) (by omega) (by omega)]; exact g6, Or.inl h16, ⟨k1, by rw [hg _ _ (by omega) (by omega) (by omega) (by omega)]; exact k2, by rw [hg _ _ (by omega) (by omega) (by omega) (by omega)]; exact k3, by rw [hg _ _ (by omega) (by omega) (by omega) (by omega)]; exact k4, by rw [hg _ _ (by omega) (by omega) (by omega) (by omega)]; exact k5, fun k hk => by rw [hg _ _ (by omega) (by omega) (by omega) (by omega)]; exact k6 k hk⟩, hl, h15, hL⟩, ⟨fun a k q => ⟨hg _ _ (by omega) (by omega) (by omega) (by omega), hr a k, hgl a k⟩, fun k => hgl _ _⟩, by rw [hg _ _ (by omega) (by omega) (by omega) (by omega)]; exact h0⟩
end UT
