/-! ===== v: what an order breaks ===== -/
def vbc (x : Int32) : Int32 := ((fJ6_bitCount_0f7a4 (fun _ => 0) x (fun _ _ => 0, fun _ _ => 0, fun _ _ => none)).map Prod.fst).getD 0
theorem vbc_eq (N : Nat → Nat) (m : XM) (x : Int32) : fJ6_bitCount_0f7a4 N x m = some (vbc x, m) := Eq.trans rfl rfl
theorem vbc_pc : ∀ a, a < 128 → vbc (zN a) = zN (zpc a) := by decide +kernel
theorem wb_rest : ∀ n, n < 8 → ∀ A, A < 2 ^ n → ∀ u, u < n → A / 2 ^ u % 2 = 0 → (2 ^ n - 1) &&& ((2 ^ n - 1 - A) &&& (127 - 2 ^ u)) = (2 ^ n - 1) &&& (127 - (A + 2 ^ u)) := by decide +kernel
theorem wb_del : ∀ L, L < 128 → ∀ u, u < 7 → L / 2 ^ u % 2 = 1 → L &&& (127 - 2 ^ u) = L - 2 ^ u ∧ 2 ^ u ≤ L ∧ zpc (L - 2 ^ u) + 1 = zpc L := by decide +kernel
theorem wb_inv : ∀ n, n < 8 → ∀ A, A < 2 ^ n → ∀ u, u < n → ((2 ^ n - 1 - A) / 2 ^ u % 2 = 1 - A / 2 ^ u % 2) ∧ zpc (2 ^ n - 1 - A) + zpc A = n := by decide +kernel
theorem wb_ex : ∀ n, n < 8 → ∀ A, A < 2 ^ n → zpc A < n → ∃ u, u < n ∧ A / 2 ^ u % 2 = 0 := by decide +kernel
theorem zmk7_n {p : Nat → Prop} {n : Nat} (hn : n < 8) (h : ∀ v, n ≤ v → ¬ p v) : zmk7 p < 2 ^ n := by
  have := zbt_le (p 0); have := zbt_le (p 1); have := zbt_le (p 2); have := zbt_le (p 3); have := zbt_le (p 4); have := zbt_le (p 5); have := zbt_le (p 6)
  have hc : n = 0 ∨ n = 1 ∨ n = 2 ∨ n = 3 ∨ n = 4 ∨ n = 5 ∨ n = 6 ∨ n = 7 := by omega
  have k : ∀ v, n ≤ v → zbt (p v) = 0 := fun v hv => zbt_0 (h v hv)
  unfold zmk7
  rcases hc with rfl | rfl | rfl | rfl | rfl | rfl | rfl | rfl
  · have := k 0 (by omega); have := k 1 (by omega); have := k 2 (by omega); have := k 3 (by omega); have := k 4 (by omega); have := k 5 (by omega); have := k 6 (by omega); omega
  · have := k 1 (by omega); have := k 2 (by omega); have := k 3 (by omega); have := k 4 (by omega); have := k 5 (by omega); have := k 6 (by omega); omega
  · have := k 2 (by omega); have := k 3 (by omega); have := k 4 (by omega); have := k 5 (by omega); have := k 6 (by omega); omega
  · have := k 3 (by omega); have := k 4 (by omega); have := k 5 (by omega); have := k 6 (by omega); omega
  · have := k 4 (by omega); have := k 5 (by omega); have := k 6 (by omega); omega
  · have := k 5 (by omega); have := k 6 (by omega); omega
  · have := k 6 (by omega); omega
  · omega
theorem zB_lt {P : zP} (hw : zwf P) {u : Nat} (hu : u < zn P) : zB P u < 2 ^ zn P := zmk7_n (by have := hw.1; omega) (fun v hv h => by have := zTo_lt hw hu h; omega)
noncomputable def zco (P : zP) (u A : Nat) : Nat := zpc (zB P u &&& (127 - (A + 2 ^ u)))
noncomputable def zbk (P : zP) : List Nat → Nat → Nat
  | [], _ => 0
  | u :: l, A => zco P u A + zbk P l (A + 2 ^ u)
/-- units, none twice, none of A -/
def zva (n : Nat) : List Nat → Nat → Prop
  | [], _ => True
  | u :: l, A => u < n ∧ A / 2 ^ u % 2 = 0 ∧ zva n l (A + 2 ^ u)
theorem zva_lt {n : Nat} : ∀ (l : List Nat) (A : Nat), zva n l A → ∀ u ∈ l, u < n
  | [], _, _, _, h => by cases h
  | v :: l, A, h, u, hu => by
    rcases List.mem_cons.mp hu with g | g
    · rw [g]; exact h.1
    · exact zva_lt l _ h.2.2 u g
theorem zand_lt {a b : Nat} (ha : a < 128) : a &&& b < 128 := Nat.lt_of_le_of_lt Nat.and_le_left ha
theorem zco_le (P : zP) (u A : Nat) : zco P u A ≤ 7 := wb_pc7 _ (zand_lt (zmk7_lt _))
section VI
variable {N : Nat → Nat} {P : zP} {c : Nat}
theorem zco_left (hw : zwf P) {u A : Nat} (hu : u < zn P) (hA : A < 2 ^ zn P) (hb : A / 2 ^ u % 2 = 0) : (zB P u &&& (2 ^ zn P - 1 - A)) &&& (127 - 2 ^ u) = zB P u &&& (127 - (A + 2 ^ u)) := by
  have hz := hw.1
  have h1 := wb_rest (zn P) (by omega) A hA u hu hb
  have h2 : zB P u &&& (2 ^ zn P - 1) = zB P u := by rw [Nat.and_two_pow_sub_one_eq_mod, Nat.mod_eq_of_lt (zB_lt hw hu)]
  rw [Nat.and_assoc]
  have e1 : zB P u &&& ((2 ^ zn P - 1 - A) &&& (127 - 2 ^ u)) = zB P u &&& ((2 ^ zn P - 1) &&& ((2 ^ zn P - 1 - A) &&& (127 - 2 ^ u))) := by rw [← Nat.and_assoc (zB P u) (2 ^ zn P - 1), h2]
  rw [e1, h1, ← Nat.and_assoc, h2]
theorem zpow_128 (hw : zwf P) : 2 ^ zn P ≤ 128 ∧ 1 ≤ 2 ^ zn P := by
  have hz := hw.1
  have : 2 ^ zn P ≤ 2 ^ 7 := Nat.pow_le_pow_right (by omega) hz
  exact ⟨by omega, Nat.pow_pos (by omega)⟩
theorem zpow_u {u : Nat} (hu : u < 7) : 2 ^ u < 128 := by
  have : 2 ^ u ≤ 2 ^ 6 := Nat.pow_le_pow_right (by omega) (by omega)
  omega
/-- the class counts what u breaks -/
theorem vc_ahead (hw : zwf P) {m : XM} {u A : Nat} (hU : vU N m c P) (h80 : ∀ u, u < zn P → gi m 80 u = zN (zB P u)) (hu : u < zn P) (hA : A < 2 ^ zn P) (hb : A / 2 ^ u % 2 = 0) : fX7_brokenAhead N 79 (zN u) (zN (2 ^ zn P - 1 - A)) m = some (zN (zco P u A), m) := by
  have hz := hw.1
  obtain ⟨-, ⟨n80, -⟩, -, -, -, -, ⟨g0, -⟩⟩ := hU
  obtain ⟨p1, p2⟩ := zpow_128 hw
  have hB : zB P u < 128 := zmk7_lt _
  have hL : 2 ^ zn P - 1 - A < 128 := by omega
  have hu7 := zpow_u (u := u) (by omega)
  unfold fX7_brokenAhead
  simp (disch := omega) only [zgr g0, zald, h80 u hu, zv, wb_and _ hB _ hL, zN_lit, wb_one, zneg]
  rw [wb_nx _ (zand_lt hB) _ hu7, vbc_eq, zca, vbc_pc _ (zand_lt (zand_lt hB)), zco_left hw hu hA hb]
  rfl
theorem vc_broken_14 (hw : zwf P) {m : XM} {q : Nat} (hU : vU N m c P) (hS : vSp m P) (hNq : N q = 7) {full : List Nat} (hrow : ∀ i u, full[i]? = some u → gi m q i = zN u) (hfl : full.length = zn P) : ∀ (l : List Nat) (n : Nat) (pre : List Nat) (A s : Nat), l.length < n → full = pre ++ l → A < 2 ^ zn P → zva (zn P) l A → fX7_countBroken_14 N n 79 q (zN (2 ^ zn P - 1 - A)) (zN s) (zN pre.length) m = some (zN (s + zbk P l A), m) := by
  have hz := hw.1
  obtain ⟨p1, p2⟩ := zpow_128 hw
  have h2 := hS.1
  intro l
  induction l with
  | nil =>
    intro n pre A s hn hl hA _
    obtain ⟨n, rfl⟩ : ∃ j, n = j + 1 := ⟨n - 1, by simp at hn; omega⟩
    have hpl : pre.length = zn P := by rw [← hfl, hl]; simp
    unfold fX7_countBroken_14
    simp (disch := omega) only [zv, h2, zN_le]
    rw [if_pos (by omega)]
    rfl
  | cons u l ih =>
    intro n pre A s hn hl hA hva
    simp only [List.length_cons] at hn
    obtain ⟨n, rfl⟩ : ∃ j, n = j + 1 := ⟨n - 1, by omega⟩
    obtain ⟨hu, hb, hva'⟩ := hva
    have hpl : pre.length + (l.length + 1) = zn P := by rw [← hfl, hl]; simp
    have hg := hrow pre.length u (by rw [hl]; simp)
    have hA' := wb_lt (zn P) (by omega) A hA u hu hb
    have hi := (wb_inv (zn P) (by omega) A hA u hu).1
    have hdel := (wb_del (2 ^ zn P - 1 - A) (by omega) u (by omega) (by omega))
    have hih := ih n (pre ++ [u]) (A + 2 ^ u) (s + zco P u A) (by omega) (by rw [hl]; simp) hA' hva'
    rw [List.length_append, List.length_singleton] at hih
    have hNq' : Int32.ofNat (N q) = zN 7 := by rw [hNq]; rfl
    unfold fX7_countBroken_14
    simp (disch := omega) only [zv, h2, zN_le, hNq', zald, hg, vc_ahead hw hU hS.2.1 hu hA hb, zca, zN_lit, wb_one, zneg, zN_add]
    rw [if_neg (by omega), if_neg (by omega), wb_nx _ (by omega) _ (zpow_u (by omega)), hdel.1, show 2 ^ zn P - 1 - A - 2 ^ u = 2 ^ zn P - 1 - (A + 2 ^ u) by omega, hih]
    congr 3
    show s + zco P u A + zbk P l (A + 2 ^ u) = s + (zco P u A + zbk P l (A + 2 ^ u))
    omega
theorem vc_countBroken (hw : zwf P) {m : XM} {q : Nat} (hU : vU N m c P) (hS : vSp m P) (hNq : N q = 7) {full : List Nat} (hrow : ∀ i u, full[i]? = some u → gi m q i = zN u) (hfl : full.length = zn P) (hva : zva (zn P) full 0) : fX7_countBroken N 79 q m = some (zN (zbk P full 0), m) := by
  have hz := hw.1
  obtain ⟨p1, p2⟩ := zpow_128 hw
  have hX := zXF
  have := vc_broken_14 (N := N) (c := c) hw hU hS hNq hrow hfl full XF [] 0 0 (by omega) rfl (by omega) hva
  unfold fX7_countBroken
  generalize XF = nf at this ⊢
  simp (disch := omega) only [zv, hS.1, zN_lit, wb_one, zN_sub]
  rw [Nat.sub_zero, Nat.zero_add] at this
  exact this
end VI
section VJ
variable {N : Nat → Nat} {P : zP}
/-- the reference's row of who is touched -/
def vD (m : XM) (P : zP) : Prop := ∀ u, u < zn P → gi m 110 u = zN (zB P u)
def vdf (m m' : XM) : Prop := (∀ a k, a ≠ 109 → a ≠ 110 → gi m' a k = gi m a k) ∧ (∀ a k, gl m' a k = gl m a k) ∧ ∀ a k, gr m' a k = gr m a k
theorem vdf_v {m m' : XM} (h : vfr m m') : vdf m m' := ⟨fun a k q _ => h.1 a k q, h.2⟩
theorem vdf_tr {m m1 m2 : XM} (h : vdf m m1) (g : vdf m1 m2) : vdf m m2 := ⟨fun a k q q1 => (g.1 a k q q1).trans (h.1 a k q q1), fun a k => (g.2.1 a k).trans (h.2.1 a k), fun a k => (g.2.2 a k).trans (h.2.2 a k)⟩
theorem vdf_si {m m1 : XM} {k : Nat} {v : Int32} (h : vdf m m1) : vdf m (si m1 110 k v) := ⟨fun a j q q1 => by rw [gi_ne (by omega)]; exact h.1 a j q q1, fun a j => h.2.1 a j, fun a j => h.2.2 a j⟩
theorem yU_d {m m' : XM} (h : yU N m P) (g : vdf m m') : yU N m' P :=
  ⟨h.1, yR_fr (fun k => g.2.2 85 k) h.2.1, h.2.2.1, yMP_fr (fun k => g.1 88 k (by omega) (by omega)) (fun k => g.1 90 k (by omega) (by omega)) h.2.2.2⟩
theorem vr_direct_2 (hw : zwf P) (hpm : zpm P) : ∀ (d g u : Nat) (m : XM), d < g → u + d = zn P → yU N m P → (∀ w, w < u → gi m 110 w = zN (zB P w)) → ∃ m', fX9_laysDirect_2 N g 85 (zN u) m = some m' ∧ vdf m m' ∧ vD m' P := by
  have hz := hw.1
  intro d
  induction d with
  | zero =>
    intro g u m hg hu hU hb
    obtain ⟨g, rfl⟩ : ∃ j, g = j + 1 := ⟨g - 1, by omega⟩
    obtain ⟨⟨-, -, n88, -⟩, ⟨-, -, g9, -⟩, -, ⟨h0, -⟩⟩ := id hU
    refine ⟨m, ?_, vdf_v (vfr_rf m), fun w hw' => hb w (by omega)⟩
    unfold fX9_laysDirect_2
    simp (disch := omega) only [zv, zgr g9, zN_lit, zald, h0, zN_le]
    rw [if_pos (by omega)]
  | succ d ih =>
    intro g u m hg hu hU hb
    obtain ⟨g, rfl⟩ : ∃ j, g = j + 1 := ⟨g - 1, by omega⟩
    obtain ⟨⟨-, -, n88, -, -, -, -, -, -, -, -, -, -, -, -, -, -, -, -, -, -, -, -, -, n110⟩, ⟨-, -, g9, -, -, -, -, -, -, -, -, -, -, -, -, -, -, -, -, -, -, -, -, -, g46⟩, -, ⟨h0, -⟩⟩ := id hU
    obtain ⟨m1, a1, a2⟩ := vc_touched hw hpm (u := u) (by omega) hU
    have f1 : vdf m (si m1 110 u (zN (zB P u))) := vdf_si (vdf_v a2)
    obtain ⟨m2, b1, b2, b3⟩ := ih g (u + 1) (si m1 110 u (zN (zB P u))) (by omega) (by omega) (yU_d hU f1) (fun w hw' => by
      by_cases e : w = u
      · rw [e, gi_si]
      · rw [gi_ne (by omega), a2.1 _ _ (by omega)]; exact hb w (by omega))
    refine ⟨m2, ?_, vdf_tr f1 b2, b3⟩
    unfold fX9_laysDirect_2
    simp (disch := omega) only [zv, zgr g9, zN_lit, zald, h0, zN_le, zgr g46, a1, zca, zast, zN_add]
    rw [if_neg (by omega)]
    exact b1
theorem vr_direct (hw : zwf P) (hpm : zpm P) {m : XM} (hU : yU N m P) : ∃ m', fX9_laysDirect N 85 m = some m' ∧ vdf m m' ∧ vD m' P := by
  have hX := zXF
  have hz := hw.1
  unfold fX9_laysDirect
  simp only [zN_lit]
  exact vr_direct_2 hw hpm (zn P) XF 0 m (by omega) (by omega) hU (fun w h => by omega)
theorem vr_broken_34 (hw : zwf P) {m : XM} (hU : yU N m P) (hD : vD m P) {O : Nat} (hn : 0 < zn P) : ∀ (l : List Nat) (n a A s : Nat), l.length < n → l.length ≤ 7 → O = yord l a → O < 10000000 → A < 2 ^ zn P → zva (zn P) l A →
    fX9_brokenIn_34 N n 85 (zN O) (zN s) (zN A) (if l = [] then zN 0 else zN (10 ^ (l.length - 1))) m = some (zN (s + zbk P l A), m) := by
  have hz := hw.1
  obtain ⟨p1, p2⟩ := zpow_128 hw
  obtain ⟨⟨-, -, n88, -, -, -, -, -, -, -, -, -, -, -, -, -, -, -, -, -, -, -, -, -, n110⟩, ⟨-, -, g9, -, -, -, -, -, -, -, -, -, -, -, -, -, -, -, -, -, -, -, -, -, g46⟩, -, ⟨h0, -⟩⟩ := hU
  intro l
  induction l with
  | nil =>
    intro n a A s hg _ hO _ hA _
    obtain ⟨n, rfl⟩ : ∃ k, n = k + 1 := ⟨n - 1, by simp at hg; omega⟩
    unfold fX9_brokenIn_34
    simp (disch := omega) only [zv, zN_lit, zN_le, if_true, Nat.le_refl]
    rfl
  | cons u l ih =>
    intro n a A s hg hl7 hO hO7 hA hva
    simp only [List.length_cons] at hg hl7
    obtain ⟨n, rfl⟩ : ∃ k, n = k + 1 := ⟨n - 1, by omega⟩
    have hlu := zva_lt _ _ hva
    obtain ⟨hu, hb, hva'⟩ := hva
    have hpow := ypow_lt (n := l.length) (by omega)
    have hpos : 0 < 10 ^ l.length := Nat.pow_pos (by omega)
    have hO1 : O = (10 * a + u) * 10 ^ l.length + yord l 0 := by rw [hO]; show yord l (10 * a + u) = _; exact yord_eq _ _
    have hlt := yord_lt l (fun v hv => by have := hlu v (List.mem_cons_of_mem _ hv); omega)
    have hdiv : O / 10 ^ l.length % 10 = u := by
      have : O / 10 ^ l.length = 10 * a + u := by
        rw [hO1, Nat.add_comm, Nat.add_mul_div_right _ _ hpos, Nat.div_eq_of_lt hlt, Nat.zero_add]
      omega
    have hrem : xrem (zN (O / 10 ^ l.length)) (zN 10) = zN u := by
      have h1 : O / 10 ^ l.length ≤ O := Nat.div_le_self _ _
      rw [zN_rem (by omega) (by omega), hdiv]
    have hx2 : 10 ^ l.length / 10 = (if l = [] then 0 else 10 ^ (l.length - 1)) := by
      cases l with
      | nil => rfl
      | cons v l =>
        rw [if_neg (by simp)]
        show 10 ^ (l.length + 1) / 10 = 10 ^ (l.length + 1 - 1)
        rw [Nat.pow_succ, Nat.mul_div_cancel _ (by omega), Nat.add_sub_cancel]
    have hif : zN (if l = [] then 0 else 10 ^ (l.length - 1)) = if l = [] then zN 0 else zN (10 ^ (l.length - 1)) := by split <;> rfl
    have hA' := wb_lt (zn P) (by omega) A hA u hu hb
    have hset := (wb_set A (by omega) u (by omega) hb).1
    have hu7 := zpow_u (u := u) (by omega)
    have hB : zB P u < 128 := zmk7_lt _
    have hand : zN (zB P u) &&& (zN (A + 2 ^ u) ^^^ zM) = zN (zB P u &&& (127 - (A + 2 ^ u))) := wb_nx _ hB _ (by omega)
    have hih := ih n (10 * a + u) (A + 2 ^ u) (s + zco P u A) (by omega) (by omega) hO hO7 hA' hva'
    rw [if_neg (show ¬ (u :: l) = [] by simp), List.length_cons, Nat.add_sub_cancel]
    have hp0 : ¬ 10 ^ l.length ≤ 0 := by omega
    have hn0 : ¬ zn P ≤ 0 := by omega
    have hbits : fX9_bits N (zN (zB P u &&& (127 - (A + 2 ^ u)))) m = some (zN (zco P u A), m) := vbits' N m (zand_lt hB)
    unfold fX9_brokenIn_34
    simp (disch := omega) only [zv, zN_lit, zN_le, hp0, if_false, zgr g9, zald, h0, hn0, zdv, zN_div, hrem, hx2, wb_one, vor, hset, zgr g46, hD u hu, zneg, hand, hbits, zca, zN_add]
    rw [hif, hih]
    congr 3
    show s + zco P u A + zbk P l (A + 2 ^ u) = s + (zco P u A + zbk P l (A + 2 ^ u))
    omega
theorem vr_broken_10 {m : XM} (hU : yU N m P) {O : Int32} : ∀ (d n i : Nat), d < n → i + d = max 1 (zn P) → 1 ≤ i → fX9_brokenIn_10 N n 85 O (zN 0) (zN 0) (zN (10 ^ (i - 1))) (zN i) m = fX9_brokenIn_34 N XF 85 O (zN 0) (zN 0) (zN (10 ^ (max 1 (zn P) - 1))) m := by
  have hz := hU.2.2.1.1
  obtain ⟨⟨-, -, n88, -⟩, ⟨-, -, g9, -⟩, -, ⟨h0, -⟩⟩ := hU
  intro d
  induction d with
  | zero =>
    intro n i hn hi h1
    obtain ⟨n, rfl⟩ : ∃ k, n = k + 1 := ⟨n - 1, by omega⟩
    unfold fX9_brokenIn_10
    simp (disch := omega) only [zv, zN_lit, zgr g9, zald, h0, zN_le]
    rw [if_pos (by omega), show max 1 (zn P) = i by omega]
  | succ d ih =>
    intro n i hn hi h1
    obtain ⟨n, rfl⟩ : ∃ k, n = k + 1 := ⟨n - 1, by omega⟩
    have := ih n (i + 1) (by omega) (by omega) (by omega)
    unfold fX9_brokenIn_10
    simp (disch := omega) only [zv, zN_lit, zgr g9, zald, h0, zN_le, zN_mul, zN_add]
    rw [if_neg (by omega), ← this, show 10 ^ (i - 1) * 10 = 10 ^ (i + 1 - 1) by rw [← Nat.pow_succ]; congr 1; omega]
theorem vr_brokenIn (hw : zwf P) {m : XM} (hU : yU N m P) (hD : vD m P) {us : List Nat} (hl : us.length = zn P) (hva : zva (zn P) us 0) : fX9_brokenIn N 85 (zN (yord us 0)) m = some (zN (zbk P us 0), m) := by
  have hz := hw.1
  have hX := zXF
  have e1 := vr_broken_10 hU (O := zN (yord us 0)) (max 1 (zn P) - 1) XF 1 (by omega) (by omega) (by omega)
  have e2 : fX9_brokenIn_34 N XF 85 (zN (yord us 0)) (zN 0) (zN 0) (zN (10 ^ (max 1 (zn P) - 1))) m = some (zN (zbk P us 0), m) := by
    by_cases hn : zn P = 0
    · have hus : us = [] := List.eq_nil_of_length_eq_zero (by omega)
      subst hus
      obtain ⟨⟨-, -, n88, -⟩, ⟨-, -, g9, -⟩, -, ⟨h0, -⟩⟩ := id hU
      rw [hn] at h0 ⊢
      revert hX
      generalize XF = nf
      intro hX
      obtain ⟨n, rfl⟩ : ∃ k, nf = k + 1 := ⟨nf - 1, by omega⟩
      unfold fX9_brokenIn_34
      have e1 : zN (10 ^ (max 1 0 - 1)) = zN 1 := rfl
      rw [e1]
      simp (disch := omega) only [zv, zN_lit, zN_le, zgr g9, zald, h0, Nat.le_refl, if_true, ite_self]
      rfl
    · have hlt := yord_lt us (fun v hv => by have := zva_lt _ _ hva v hv; omega)
      have hpow := ypow_lt (n := us.length) (by omega)
      have hne : ¬ us = [] := fun e => by rw [e] at hl; simp at hl; omega
      have := vr_broken_34 hw hU hD (O := yord us 0) (by omega) us XF 0 0 0 (by omega) (by omega) rfl (by omega) (zpow_128 hw).2 hva
      rw [if_neg hne, Nat.zero_add] at this
      rw [show max 1 (zn P) = us.length by omega]
      exact this
  unfold fX9_brokenIn
  simp only [zN_lit]
  rw [← e2, ← e1]
end VJ
