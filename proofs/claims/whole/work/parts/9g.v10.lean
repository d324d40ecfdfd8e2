/-! ===== v: least, by the class and by the reference ===== -/
section VK
variable {N : Nat → Nat} {P : zP} {c : Nat}
/-- sets that are left, weighed below b -/
def vWt (m : XM) (P : zP) (b : Nat) : Prop := ∀ L, L < b → gi m 84 L = zN (zF P (zpc L) (2 ^ zn P - 1 - L))
def vwf (m m' : XM) : Prop := (∀ a k, a ≠ 84 → gi m' a k = gi m a k) ∧ (∀ a k, gl m' a k = gl m a k) ∧ ∀ a k, gr m' a k = gr m a k
theorem vwf_s {m m' : XM} (h : vwf m m') : vsf m m' := ⟨fun a k q => h.1 a k (by omega), fun a k _ => h.2.1 a k, h.2.2⟩
theorem vwf_rf (m : XM) : vwf m m := ⟨fun _ _ _ => rfl, fun _ _ => rfl, fun _ _ => rfl⟩
theorem vwf_tr {m m1 m2 : XM} (h : vwf m m1) (g : vwf m1 m2) : vwf m m2 := ⟨fun a k q => (g.1 a k q).trans (h.1 a k q), fun a k => (g.2.1 a k).trans (h.2.1 a k), fun a k => (g.2.2 a k).trans (h.2.2 a k)⟩
theorem vwf_si {m m1 : XM} {k : Nat} {v : Int32} (h : vwf m m1) : vwf m (si m1 84 k v) := ⟨fun a j q => by rw [gi_ne (by omega)]; exact h.1 a j q, fun a j => h.2.1 a j, fun a j => h.2.2 a j⟩
theorem vSp_w {m m' : XM} (h : vSp m P) (g : vwf m m') : vSp m' P := ⟨by rw [g.1 _ _ (by omega)]; exact h.1, fun u hu => by rw [g.1 _ _ (by omega)]; exact h.2.1 u hu, fun u hu => by rw [g.1 _ _ (by omega)]; exact h.2.2 u hu⟩
theorem vc_with (hw : zwf P) {m : XM} {u A k : Nat} (hU : vU N m c P) (hS : vSp m P) (hu : u < zn P) (hA : A < 2 ^ zn P) (hb : A / 2 ^ u % 2 = 0) (hk : zpc A + (k + 1) = zn P) (hW : vWt m P (2 ^ zn P - 1 - A)) : fX7_fewestWith N 79 (zN u) (zN (2 ^ zn P - 1 - A)) m = some (zN (zco P u A + zF P k (A + 2 ^ u)), m) := by
  have hz := hw.1
  obtain ⟨p1, p2⟩ := zpow_128 hw
  have hi := wb_inv (zn P) (by omega) A hA u hu
  obtain ⟨d1, d2, d3⟩ := wb_del (2 ^ zn P - 1 - A) (by omega) u (by omega) (by omega)
  have hp : 0 < 2 ^ u := Nat.pow_pos (by omega)
  have hrow := hW (2 ^ zn P - 1 - A - 2 ^ u) (by omega)
  have hA' := wb_lt (zn P) (by omega) A hA u hu hb
  have e1 : 2 ^ zn P - 1 - (2 ^ zn P - 1 - A - 2 ^ u) = A + 2 ^ u := by omega
  have e2 : zpc (2 ^ zn P - 1 - A - 2 ^ u) = k := by omega
  rw [e1, e2] at hrow
  have hu7 := zpow_u (u := u) (by omega)
  have hnx : zN (2 ^ zn P - 1 - A) &&& (zN (2 ^ u) ^^^ zM) = zN (2 ^ zn P - 1 - A - 2 ^ u) := by rw [wb_nx _ (by omega) _ hu7, d1]
  obtain ⟨-, ⟨-, -, -, -, n84⟩, -, -, -, -, ⟨-, -, -, -, g7⟩⟩ := id hU
  unfold fX7_fewestWith
  simp (disch := omega) only [vc_ahead hw hU hS.2.1 hu hA hb, zca, zgr g7, zv, zN_lit, wb_one, zneg, hnx, zald, hrow, zN_add]
theorem vc_weigh_29 (hw : zwf P) {r9 : Nat → Int32 → XM → Option XM} {A k : Nat} (hA : A < 2 ^ zn P) (hk : zpc A + (k + 1) = zn P) : ∀ (d n u a : Nat) (m : XM), d < n → u + d = zn P → a ≤ 49 → vU N m c P → vSp m P → vWt m P (2 ^ zn P - 1 - A) → gi m 84 (2 ^ zn P - 1 - A) = zN a →
    ∃ m', fX7_weighAll_29 N r9 n 79 (zN (2 ^ zn P - 1 - A)) (zN u) m = r9 79 (zN (2 ^ zn P - 1 - A + 1)) m' ∧ vwf m m' ∧ (∀ L, L ≠ 2 ^ zn P - 1 - A → gi m' 84 L = gi m 84 L) ∧ gi m' 84 (2 ^ zn P - 1 - A) = zN (zmn (zfr0 A) (fun u => zco P u A + zF P k (A + 2 ^ u)) d u a) := by
  have hz := hw.1
  obtain ⟨p1, p2⟩ := zpow_128 hw
  intro d
  induction d with
  | zero =>
    intro n u a m hn hu ha hU hS hW hg
    obtain ⟨n, rfl⟩ : ∃ j, n = j + 1 := ⟨n - 1, by omega⟩
    refine ⟨m, ?_, vwf_rf m, fun _ _ => rfl, hg⟩
    have h2 := hS.1
    unfold fX7_weighAll_29
    simp (disch := omega) only [zv, h2, zN_le, zN_lit, zN_add]
    rw [if_pos (by omega)]
  | succ d ih =>
    intro n u a m hn hu ha hU hS hW hg
    obtain ⟨n, rfl⟩ : ∃ j, n = j + 1 := ⟨n - 1, by omega⟩
    have h2 := hS.1
    have hi := (wb_inv (zn P) (by omega) A hA u (by omega)).1
    have hbit := wb_bit (2 ^ zn P - 1 - A) (by omega) u (by omega)
    have hnu : ¬ zn P ≤ u := by omega
    obtain ⟨-, ⟨-, -, -, -, n84⟩, -, -, -, -, ⟨-, -, -, -, g7⟩⟩ := id hU
    unfold fX7_weighAll_29 fX7_weighAll_66
    simp (disch := omega) only [zv, h2, zN_le, hnu, if_false, zN_lit, hbit, hi, zN_eq]
    by_cases hb : A / 2 ^ u % 2 = 0
    · have hok : zfr0 A u = true := decide_eq_true hb
      have hF := zF_7 hw k (A + 2 ^ u) (wb_lt (zn P) (by omega) A hA u (by omega) hb) (by
        have := wb_pc A (by omega) u (by omega) hb
        omega)
      have hco := zco_le P u A
      have hne : ¬ 1 - A / 2 ^ u % 2 = 0 := by omega
      have hmin : ∀ m, fJ9_min_7cf53 N (zN a) (zN (zco P u A + zF P k (A + 2 ^ u))) m = some (zN (if zco P u A + zF P k (A + 2 ^ u) < a then zco P u A + zF P k (A + 2 ^ u) else a), m) := fun m => by
        unfold fJ9_min_7cf53
        simp (disch := omega) only [zN_lt]
        split <;> rfl
      have hstep : zmn (zfr0 A) (fun u => zco P u A + zF P k (A + 2 ^ u)) (d + 1) u a = zmn (zfr0 A) (fun u => zco P u A + zF P k (A + 2 ^ u)) d (u + 1) (if zco P u A + zF P k (A + 2 ^ u) < a then zco P u A + zF P k (A + 2 ^ u) else a) := by
        show zmn _ _ d (u + 1) (if zfr0 A u = true then _ else _) = _
        rw [if_pos hok]
      rw [hstep]
      generalize hnew : (if zco P u A + zF P k (A + 2 ^ u) < a then zco P u A + zF P k (A + 2 ^ u) else a) = a' at hmin
      have ha' : a' ≤ 49 := by rw [← hnew]; split <;> omega
      have f1 : vwf m (si m 84 (2 ^ zn P - 1 - A) (zN a')) := vwf_si (vwf_rf m)
      obtain ⟨m', q1, q2, q3, q4⟩ := ih n (u + 1) a' (si m 84 (2 ^ zn P - 1 - A) (zN a')) (by omega) (by omega) ha' (vU_s hU (vwf_s f1)) (vSp_w hS f1) (fun L hL => by rw [gi_ne (by omega)]; exact hW L hL) (gi_si _ _ _ _)
      refine ⟨m', ?_, vwf_tr f1 q2, fun L hL => by rw [q3 L hL, gi_ne (by omega)], q4⟩
      simp (disch := omega) only [hne, if_false, zgr g7, zald, hg, vc_with hw hU hS (by omega) hA hb hk hW, zca, hmin, zast, zN_add]
      exact q1
    · have hok : zfr0 A u = false := decide_eq_false hb
      have hstep : zmn (zfr0 A) (fun u => zco P u A + zF P k (A + 2 ^ u)) (d + 1) u a = zmn (zfr0 A) (fun u => zco P u A + zF P k (A + 2 ^ u)) d (u + 1) a := by
        show zmn _ _ d (u + 1) (if zfr0 A u = true then _ else _) = _
        rw [hok]; rfl
      rw [hstep, if_pos (by omega)]
      simp only [zN_add]
      exact ih n (u + 1) a m (by omega) (by omega) ha hU hS hW hg
theorem vc_weigh_9 (hw : zwf P) : ∀ (d n L : Nat) (m : XM), d < n → L + d = 2 ^ zn P → 1 ≤ L → vU N m c P → vSp m P → vWt m P L → ∃ m', fX7_weighAll_9 N n 79 (zN L) m = some m' ∧ vwf m m' ∧ vWt m' P (2 ^ zn P) := by
  have hz := hw.1
  obtain ⟨p1, p2⟩ := zpow_128 hw
  intro d
  induction d with
  | zero =>
    intro n L m hn hL h1 hU hS hW
    obtain ⟨n, rfl⟩ : ∃ j, n = j + 1 := ⟨n - 1, by omega⟩
    have h2 := hS.1
    refine ⟨m, ?_, vwf_rf m, by rw [← hL]; exact hW⟩
    unfold fX7_weighAll_9
    generalize XF = nf
    simp (disch := omega) only [zv, h2, zN_lit, wb_one, zN_le]
    rw [if_pos (by omega)]
  | succ d ih =>
    intro n L m hn hL h1 hU hS hW
    obtain ⟨n, rfl⟩ : ∃ j, n = j + 1 := ⟨n - 1, by omega⟩
    have h2 := hS.1
    obtain ⟨-, ⟨-, -, -, -, n84⟩, -, -, -, -, ⟨-, -, -, -, g7⟩⟩ := id hU
    have hX := zXF
    generalize hA : 2 ^ zn P - 1 - L = A
    have hLA : L = 2 ^ zn P - 1 - A := by omega
    have hA2 : A < 2 ^ zn P := by omega
    have hpc := (wb_inv (zn P) (by omega) A hA2)
    have hk : ∃ k, zpc A + (k + 1) = zn P ∧ zpc L = k + 1 := by
      have hn0 : zn P ≠ 0 := fun e => by rw [e] at hL; simp at hL; omega
      have h3 := (hpc 0 (by omega)).2
      have h4 : ¬ zpc A = zn P := fun e => by
        have := (wb_full (zn P) (by omega) A hA2)
        rw [← this] at e
        omega
      rw [← hLA] at h3
      exact ⟨zpc L - 1, by omega, by omega⟩
    obtain ⟨k, hk1, hk2⟩ := hk
    have f1 : vwf m (si m 84 L (zN 49)) := vwf_si (vwf_rf m)
    have hW1 : vWt (si m 84 L (zN 49)) P L := fun L' hL' => by rw [gi_ne (by omega)]; exact hW L' hL'
    have hU1 := vU_s hU (vwf_s f1)
    have hS1 := vSp_w hS f1
    rw [hLA] at hW1 hU1 hS1
    obtain ⟨m1, q1, q2, q3, q4⟩ := vc_weigh_29 (N := N) (c := c) hw (r9 := fun q0 x1 m0 => fX7_weighAll_9 N n q0 x1 m0) hA2 hk1 (zn P) XF 0 49 (si m 84 (2 ^ zn P - 1 - A) (zN 49)) (by omega) (by omega) (Nat.le_refl _) hU1 hS1 hW1 (gi_si _ _ _ _)
    rw [← hLA] at q1 q2 q3 q4 hU1 hS1 hW1
    have hW2 : vWt m1 P (L + 1) := fun L' hL' => by
      by_cases e : L' = L
      · rw [e, q4, hA, hk2]; rfl
      · rw [q3 L' e]; exact hW1 L' (by omega)
    obtain ⟨m2, r1, r2, r3⟩ := ih n (L + 1) m1 (by omega) (by omega) (by omega) (vU_s hU1 (vwf_s q2)) (vSp_w hS1 q2) hW2
    refine ⟨m2, ?_, vwf_tr f1 (vwf_tr q2 r2), r3⟩
    unfold fX7_weighAll_9
    generalize XF = nf at q1 ⊢
    simp (disch := omega) only [zv, h2, zN_lit, wb_one, zN_le, zgr g7, zast]
    rw [if_neg (by omega), q1]
    exact r1
theorem vc_weigh (hw : zwf P) {m : XM} (hU : vU N m c P) (hS : vSp m P) : ∃ m', fX7_weighAll N 79 m = some m' ∧ vwf m m' ∧ vWt m' P (2 ^ zn P) := by
  obtain ⟨p1, p2⟩ := zpow_128 hw
  obtain ⟨-, ⟨-, -, -, -, n84⟩, -, -, -, -, ⟨-, -, -, -, g7⟩⟩ := id hU
  have hX := zXF
  have f1 : vwf m (si m 84 0 (zN 0)) := vwf_si (vwf_rf m)
  obtain ⟨m', q1, q2, q3⟩ := vc_weigh_9 (N := N) (c := c) hw (2 ^ zn P - 1) XF 1 (si m 84 0 (zN 0)) (by omega) (by omega) (Nat.le_refl _) (vU_s hU (vwf_s f1)) (vSp_w hS f1) (fun L hL => by rw [show L = 0 by omega, gi_si]; rfl)
  refine ⟨m', ?_, vwf_tr f1 q2, q3⟩
  unfold fX7_weighAll
  generalize XF = nf at q1 ⊢
  simp (disch := omega) only [zgr g7, zN_lit, zast]
  exact q1
theorem vc_fewestBroken (hw : zwf P) {m : XM} (hU : vU N m c P) (hS : vSp m P) : ∃ m', fX7_fewestBroken N 79 m = some (zN (zLst P).1, m') ∧ vwf m m' := by
  have hz := hw.1
  obtain ⟨p1, p2⟩ := zpow_128 hw
  obtain ⟨-, ⟨-, -, -, -, n84⟩, -, -, -, -, ⟨-, -, -, -, g7⟩⟩ := id hU
  obtain ⟨m', q1, q2, q3⟩ := vc_weigh hw hU hS
  have g7' : gr m' 79 7 = some 84 := by rw [q2.2.2]; exact g7
  have h2 := (vSp_w hS q2).1
  have hrow := q3 (2 ^ zn P - 1) (by omega)
  have hpc : zpc (2 ^ zn P - 1) = zn P := by
    have := wb_full (zn P) (by omega) (2 ^ zn P - 1) (by omega)
    rw [← this]
  rw [hpc, Nat.sub_self] at hrow
  refine ⟨m', ?_, q2⟩
  unfold fX7_fewestBroken
  simp (disch := omega) only [q1, zcv, zgr g7', zv, h2, zN_lit, wb_one, zN_sub, zald, hrow]
  rfl
theorem vc_first_2 (hw : zwf P) {A k : Nat} (hA : A < 2 ^ zn P) (hk : zpc A + (k + 1) = zn P) {m : XM} (hU : vU N m c P) (hS : vSp m P) (hW : vWt m P (2 ^ zn P)) : ∀ (d n u : Nat), d < n → u + d = zn P → fX7_firstOfFewest_2 N n 79 (zN (2 ^ zn P - 1 - A)) (zN u) m = some (zN (zfi (zfr0 A) (fun u => zco P u A + zF P k (A + 2 ^ u)) (zF P (k + 1) A) d u), m) := by
  have hz := hw.1
  obtain ⟨p1, p2⟩ := zpow_128 hw
  obtain ⟨-, ⟨-, -, -, -, n84⟩, -, -, -, -, ⟨-, -, -, -, g7⟩⟩ := id hU
  have h2 := hS.1
  have hF0 := zF_le P (k + 1) A
  intro d
  induction d with
  | zero =>
    intro n u hn hu
    obtain ⟨n, rfl⟩ : ∃ j, n = j + 1 := ⟨n - 1, by omega⟩
    unfold fX7_firstOfFewest_2
    simp (disch := omega) only [zv, h2, zN_le, zN_lit]
    rw [if_pos (by omega)]
    rfl
  | succ d ih =>
    intro n u hn hu
    obtain ⟨n, rfl⟩ : ∃ j, n = j + 1 := ⟨n - 1, by omega⟩
    have hi := wb_inv (zn P) (by omega) A hA u (by omega)
    have hbit := wb_bit (2 ^ zn P - 1 - A) (by omega) u (by omega)
    have hnu : ¬ zn P ≤ u := by omega
    have hrow := hW (2 ^ zn P - 1 - A) (by omega)
    rw [show 2 ^ zn P - 1 - (2 ^ zn P - 1 - A) = A by omega, show zpc (2 ^ zn P - 1 - A) = k + 1 by omega] at hrow
    have hih := ih n (u + 1) (by omega) (by omega)
    have hstep : zfi (zfr0 A) (fun u => zco P u A + zF P k (A + 2 ^ u)) (zF P (k + 1) A) (d + 1) u = if zfr0 A u = true ∧ zco P u A + zF P k (A + 2 ^ u) = zF P (k + 1) A then u else zfi (zfr0 A) (fun u => zco P u A + zF P k (A + 2 ^ u)) (zF P (k + 1) A) d (u + 1) := rfl
    rw [hstep]
    unfold fX7_firstOfFewest_2 fX7_firstOfFewest_35
    simp (disch := omega) only [zv, h2, zN_le, hnu, if_false, zN_lit, hbit, hi.1, zN_eq, zN_add]
    by_cases hb : A / 2 ^ u % 2 = 0
    · have hok : zfr0 A u = true := decide_eq_true hb
      have hF := zF_7 hw k (A + 2 ^ u) (wb_lt (zn P) (by omega) A hA u (by omega) hb) (by
        have := wb_pc A (by omega) u (by omega) hb
        omega)
      have hco := zco_le P u A
      have hne : ¬ 1 - A / 2 ^ u % 2 = 0 := by omega
      simp (disch := omega) only [hne, if_false, vc_with hw hU hS (show u < zn P by omega) hA hb hk (fun L hL => hW L (by omega)), zca, zgr g7, zald, hrow, zN_eq]
      by_cases e : zco P u A + zF P k (A + 2 ^ u) = zF P (k + 1) A
      · rw [if_pos e, if_pos ⟨hok, e⟩]
      · rw [if_neg e, if_neg (fun h => e h.2)]
        exact hih
    · have hok : ¬ zfr0 A u = true := fun h => hb (of_decide_eq_true h)
      rw [if_pos (by omega), if_neg (fun h => hok h.1)]
      exact hih
theorem vc_least_17 (hw : zwf P) {m : XM} (hU : vU N m c P) (hS : vSp m P) (hW : vWt m P (2 ^ zn P)) : ∀ (k n i A o : Nat), k < n → i + k = zn P → A < 2 ^ zn P → zpc A + k = zn P → fX7_leastBreaking_17 N n 79 (zN o) (zN (2 ^ zn P - 1 - A)) (zN i) m = some (zN (yord (zO P k A) o), m) := by
  have hz := hw.1
  obtain ⟨p1, p2⟩ := zpow_128 hw
  have h2 := hS.1
  intro k
  induction k with
  | zero =>
    intro n i A o hn hi hA hk
    obtain ⟨n, rfl⟩ : ∃ j, n = j + 1 := ⟨n - 1, by omega⟩
    unfold fX7_leastBreaking_17
    simp (disch := omega) only [zv, h2, zN_le]
    rw [if_pos (by omega)]
    rfl
  | succ k ih =>
    intro n i A o hn hi hA hk
    obtain ⟨n, rfl⟩ : ∃ j, n = j + 1 := ⟨n - 1, by omega⟩
    obtain ⟨f1, f2, f3⟩ := zfo_ok hw hA hk
    have hX := zXF
    have hfst : fX7_firstOfFewest N 79 (zN (2 ^ zn P - 1 - A)) m = some (zN (zfo P k A), m) := by
      unfold fX7_firstOfFewest
      simp only [zN_lit]
      exact vc_first_2 hw hA hk hU hS hW (zn P) XF 0 (by omega) (by omega)
    have hi2 := wb_inv (zn P) (by omega) A hA (zfo P k A) f1
    obtain ⟨d1, d2, d3⟩ := wb_del (2 ^ zn P - 1 - A) (by omega) (zfo P k A) (by omega) (by omega)
    have hu7 := zpow_u (u := zfo P k A) (by omega)
    have hnx : zN (2 ^ zn P - 1 - A) &&& (zN (2 ^ zfo P k A) ^^^ zM) = zN (2 ^ zn P - 1 - (A + 2 ^ zfo P k A)) := by rw [wb_nx _ (by omega) _ hu7, d1]; congr 1; omega
    have hih := ih n (i + 1) (A + 2 ^ zfo P k A) (10 * o + zfo P k A) (by omega) (by omega) (wb_lt (zn P) (by omega) A hA _ f1 f2) (by
      have := wb_pc A (by omega) _ (by omega : zfo P k A < 7) f2
      omega)
    unfold fX7_leastBreaking_17
    simp (disch := omega) only [zv, h2, zN_le, hfst, zca, zN_lit, zN_mul, zN_add, wb_one, zneg, hnx]
    rw [if_neg (by omega), Nat.mul_comm o 10, hih]
    rfl
theorem vc_leastBreaking (hw : zwf P) {m : XM} (hU : vU N m c P) (hS : vSp m P) : ∃ m', fX7_leastBreaking N 79 m = some ((zLst P).2, m') ∧ vwf m m' := by
  have hz := hw.1
  obtain ⟨p1, p2⟩ := zpow_128 hw
  have hX := zXF
  obtain ⟨m', q1, q2, q3⟩ := vc_weigh hw hU hS
  have hS' := vSp_w hS q2
  have h2 := hS'.1
  have := vc_least_17 (N := N) (c := c) hw (vU_s hU (vwf_s q2)) hS' q3 (zn P) XF 0 0 0 (by omega) (by omega) (by omega) (by show 0 + _ = _; omega)
  refine ⟨m', ?_, q2⟩
  unfold fX7_leastBreaking
  generalize XF = nf at this ⊢
  simp (disch := omega) only [q1, zcv, zv, h2, zN_lit, wb_one, zN_sub]
  rw [Nat.sub_zero] at this
  exact this
end VK
section VL
variable {N : Nat → Nat} {P : zP}
theorem zC_va {n : Nat} (hn : n < 8) : ∀ (k A : Nat) (us vs : List Nat), A < 2 ^ n → us.foldl (fun a u => a + 2 ^ u) 0 = A → vs ∈ zC n k A us → ∃ ws, vs = us ++ ws ∧ zva n ws A
  | 0, A, us, vs, _, _, h => by
    rw [List.mem_singleton.mp h]
    exact ⟨[], (List.append_nil _).symm, trivial⟩
  | k + 1, A, us, vs, hA, hus, h => by
    obtain ⟨u, -, h2, h3⟩ := zcat_mem _ _ h
    by_cases e : A / 2 ^ u % 2 = 0
    · rw [if_pos e] at h3
      obtain ⟨ws, e1, e2⟩ := zC_va hn k (A + 2 ^ u) (us ++ [u]) vs (wb_lt n hn A hA u (by omega) e) (by rw [List.foldl_append, hus]; rfl) h3
      exact ⟨u :: ws, by rw [e1, List.append_assoc]; rfl, by omega, e, e2⟩
    · rw [if_neg e] at h3; cases h3
def lsx (st : Nat × Int32) (x2 x3 : Int32) : Prop := (st = (1000, zM) ∧ x2 = zM ∧ x3 = zM) ∨ (st.1 ≤ 49 ∧ x2 = zN st.1 ∧ x3 = st.2)
theorem zbk_le (P : zP) : ∀ (us : List Nat) (A : Nat), zbk P us A ≤ 7 * us.length
  | [], _ => by show 0 ≤ 0; omega
  | u :: us, A => by
    have := zbk_le P us (A + 2 ^ u)
    have := zco_le P u A
    show zco P u A + zbk P us (A + 2 ^ u) ≤ 7 * (us.length + 1)
    omega
theorem vD_n {m m' : XM} (h : vD m P) (g : nfr m m') : vD m' P := fun u hu => by rw [g.1 _ _ (by omega)]; exact h u hu
theorem vr_least (hw : zwf P) {w : Nat} (hw1 : w ≤ 1) : ∀ (l : List (List Nat)) (us : List Nat) (g : Nat) (st : Nat × Int32) (x2 x3 : Int32) (m : XM), l.length + 2 ≤ g → nchk (zn P) (us :: l) = true → (∀ vs ∈ us :: l, vs.length = zn P ∧ zva (zn P) vs 0) → lsx st x2 x3 → yU N m P → vD m P → nD m (zn P) (ndl us) →
    ∃ m', fX9_least_45 N g 85 (zN w) x2 x3 (zN 1) m = some (if w = 0 then zN (lfold P st (us :: l)).1 else (lfold P st (us :: l)).2, m') ∧ nfr m m' := by
  have hz := hw.1
  intro l
  induction l with
  | nil =>
    intro us g st x2 x3 m hg hchk hall hst hU hDD hD
    obtain ⟨hul, hva⟩ := hall us List.mem_cons_self
    simp only [List.length_nil] at hg
    obtain ⟨g, rfl⟩ : ∃ j, g = j + 2 := ⟨g - 2, by omega⟩
    have hlu := zva_lt _ _ hva
    have hbl := zbk_le P us 0
    obtain ⟨m2, b1, b2⟩ := yc_next (d := ndl us) (fun j hj => ndl_10 (fun u hu => by have := hlu u hu; omega) j (by omega)) hU hD
    have hnone : nxt (zn P) (ndl us) = none := by
      have : (nxl (zn P) us).isNone = true := hchk
      unfold nxl at this
      cases h : nxt (zn P) (ndl us) with
      | none => rfl
      | some d => rw [h] at this; cases this
    rw [hnone] at b1
    have b1' : fX9_nextOrder N 85 m = some (zN 0, m2) := b1
    have hend : ∀ y2 y3, fX9_least_45 N (g + 1) 85 (zN w) (zN y2) y3 (zN 0) m2 = some (if w = 0 then zN y2 else y3, m2) := by
      intro y2 y3
      unfold fX9_least_45
      have hc : w = 0 ∨ w = 1 := by omega
      rcases hc with rfl | rfl <;> simp (disch := omega) only [zv, zN_lit, if_true, zN_eq, if_false, Nat.one_ne_zero]
    have hf : lfold P st [us] = lst P st us := rfl
    rw [hf]
    refine ⟨m2, ?_, b2⟩
    unfold fX9_least_45 fX9_least_71 fX9_least_79 lst
    simp (disch := omega) only [zv, zN_lit, zN10, if_false, yc_order hU hD hul, zca, vr_brokenIn hw hU hDD hul hva, b1', zneg]
    rcases hst with ⟨rfl, rfl, rfl⟩ | ⟨s1, rfl, rfl⟩
    · rw [if_pos rfl, if_pos (show zbk P us 0 < 1000 by omega)]
      exact hend _ _
    · simp (disch := omega) only [zN_m, if_false, zN_le]
      by_cases e : st.1 ≤ zbk P us 0
      · rw [if_pos e, if_neg (show ¬ zbk P us 0 < st.1 by omega)]
        exact hend _ _
      · rw [if_neg e, if_pos (show zbk P us 0 < st.1 by omega)]
        exact hend _ _
  | cons vs l ih =>
    intro us g st x2 x3 m hg hchk hall hst hU hDD hD
    obtain ⟨hul, hva⟩ := hall us List.mem_cons_self
    simp only [List.length_cons] at hg
    obtain ⟨g, rfl⟩ : ∃ j, g = j + 1 := ⟨g - 1, by omega⟩
    have hlu := zva_lt _ _ hva
    have hbl := zbk_le P us 0
    obtain ⟨m2, b1, b2⟩ := yc_next (d := ndl us) (fun j hj => ndl_10 (fun u hu => by have := hlu u hu; omega) j (by omega)) hU hD
    have hchk' : (nxl (zn P) us == some vs) = true ∧ nchk (zn P) (vs :: l) = true := by
      have : ((nxl (zn P) us == some vs) && nchk (zn P) (vs :: l)) = true := hchk
      exact Bool.and_eq_true_iff.mp this
    have hnx : nxl (zn P) us = some vs := eq_of_beq hchk'.1
    obtain ⟨d', hd'⟩ : ∃ d', nxt (zn P) (ndl us) = some d' ∧ ntl (zn P) d' = vs := by
      unfold nxl at hnx
      cases h : nxt (zn P) (ndl us) with
      | none => rw [h] at hnx; cases hnx
      | some d => rw [h] at hnx; exact ⟨d, rfl, by injection hnx⟩
    rw [hd'.1] at b1
    have b1' : fX9_nextOrder N 85 m = some (zN 1, m2) := b1.1
    have hD2 := ntl_dl hd'.2 b1.2
    have hgo : ∀ y2 y3, lsx (lst P st us) y2 y3 → ∃ m', fX9_least_45 N g 85 (zN w) y2 y3 (zN 1) m2 = some (if w = 0 then zN (lfold P st (us :: vs :: l)).1 else (lfold P st (us :: vs :: l)).2, m') ∧ nfr m m' := by
      intro y2 y3 hy
      obtain ⟨m', c1, c2⟩ := ih vs g (lst P st us) y2 y3 m2 (by omega) hchk'.2 (fun v hv => hall v (List.mem_cons_of_mem _ hv)) hy (yU_n hU b2) (vD_n hDD b2) hD2
      exact ⟨m', c1, nfr_tr b2 c2⟩
    unfold fX9_least_45 fX9_least_71 fX9_least_79
    simp (disch := omega) only [zv, zN_lit, zN10, if_false, yc_order hU hD hul, zca, vr_brokenIn hw hU hDD hul hva, b1', zneg]
    have hl49 : zbk P us 0 ≤ 49 := by omega
    rcases hst with ⟨rfl, rfl, rfl⟩ | ⟨s1, rfl, rfl⟩
    · rw [if_pos rfl]
      exact hgo _ _ (Or.inr (by unfold lst; rw [if_pos (show zbk P us 0 < 1000 by omega)]; exact ⟨hl49, rfl, rfl⟩))
    · simp (disch := omega) only [zN_m, if_false, zN_le]
      by_cases e : st.1 ≤ zbk P us 0
      · rw [if_pos e]
        exact hgo _ _ (Or.inr (by unfold lst; rw [if_neg (show ¬ zbk P us 0 < st.1 by omega)]; exact ⟨s1, rfl, rfl⟩))
      · rw [if_neg e]
        exact hgo _ _ (Or.inr (by unfold lst; rw [if_pos (show zbk P us 0 < st.1 by omega)]; exact ⟨hl49, rfl, rfl⟩))
theorem vr_leastAll (hw : zwf P) {w : Nat} (hw1 : w ≤ 1) {m : XM} (hU : yU N m P) (hDD : vD m P) :
    ∃ m', (xcv (fX9_firstOrder N 85 m) fun m4 => fX9_least_45 N XF 85 (zN w) zM zM (zN 1) m4) = some (if w = 0 then zN (zLst P).1 else (zLst P).2, m') ∧ nfr m m' := by
  have hz := hw.1
  obtain ⟨m1, a1, a2, a3⟩ := yc_first hU
  obtain ⟨c1, c2, c3⟩ := nchk_ok (zn P) (by omega)
  have hX := zXF
  have hmem := zC_mem (n := zn P) (zn P) 0 []
  have hva := fun vs => zC_va (n := zn P) (by omega) (zn P) 0 [] vs (zpow_128 hw).2 rfl
  have hL := lfold_all hw
  generalize zC (zn P) (zn P) 0 [] = L at c1 c2 c3 hmem hva hL
  cases L with
  | nil => cases c2
  | cons us l =>
    have hus : us = List.range (zn P) := by
      have : some us = some (List.range (zn P)) := c2
      injection this
    subst hus
    simp only [List.length_cons] at c3
    obtain ⟨m', d1, d2⟩ := vr_least hw hw1 l (List.range (zn P)) XF (1000, zM) zM zM m1 (by omega) c1 (fun vs hv => by
      refine ⟨by rw [(hmem vs hv).1]; simp, ?_⟩
      obtain ⟨ws, e1, e2⟩ := hva vs hv
      rw [e1]; exact e2) (Or.inl ⟨rfl, rfl, rfl⟩) (yU_n hU a2) (vD_n hDD a2) a3
    rw [hL] at d1
    exact ⟨m', by rw [a1, zcv]; exact d1, nfr_tr a2 d2⟩
end VL
