/-! ===== u: told, print ===== -/
def zo1 (P : zP) (u j : Nat) : Nat := if zon P (12 * u + j) then 1 else 0
def zou (P : zP) (u : Nat) : Nat := zsm (zo1 P u) (zcnt P u)
theorem zsm_le {f : Nat → Nat} {b : Nat} (h : ∀ i, f i ≤ b) : ∀ n, zsm f n ≤ b * n
  | 0 => by show 0 ≤ b * 0; omega
  | n + 1 => by
    have := zsm_le h n
    have := h n
    show zsm f n + f n ≤ b * (n + 1)
    rw [Nat.mul_succ]
    omega
theorem zbase_sm (P : zP) : ∀ n, zbase P n = zsm (zcnt P) n
  | 0 => rfl
  | n + 1 => by
    show zbase P n + zcnt P n = zsm (zcnt P) n + zcnt P n
    rw [zbase_sm P n]
section UG
variable {N : Nat → Nat} {m : XM} {c d : Nat} {S : zJ} {P : zP}
theorem u_cm_15 (hw : zwf P) (hUN : zUN N c) (hUr : zUr m c) (hCP : zCP m c P) {r4 : Nat → Int32 → Int32 → Int32 → XM → Option (Int32 × XM)} {u f : Nat} (hu : u < zn P) (hf : f ≤ 1) : ∀ (dd n j a : Nat), dd < n → j + dd = zcnt P u → fX6_countMembers_15 N r4 n c (zN f) (zN (a + zsm (fun j => if f = 0 then 1 else zo1 P u j) j)) (zN u) (zN j) m = r4 c (zN f) (zN (a + zsm (fun j => if f = 0 then 1 else zo1 P u j) (zcnt P u))) (zN (u + 1)) m := by
  have hz := hw.1
  have hcn := (hw.2.1 u hu).1
  obtain ⟨-, -, u3, -, -, -, -, u8, -⟩ := hUN
  obtain ⟨-, -, r3, -, -, -, -, r8, -⟩ := hUr
  have hc3 := (hCP.2.2.1 u hu).2.2
  intro dd
  induction dd with
  | zero =>
    intro n j a hn hj
    obtain ⟨n, rfl⟩ : ∃ k, n = k + 1 := ⟨n - 1, by omega⟩
    unfold fX6_countMembers_15
    simp (disch := omega) only [zv, zgr r3, zald, hc3, zN_le, zN_lit, zN_add]
    rw [if_pos (by omega), show j = zcnt P u by omega]
  | succ dd ih =>
    intro n j a hn hj
    obtain ⟨n, rfl⟩ : ∃ k, n = k + 1 := ⟨n - 1, by omega⟩
    have hx : zok P (12 * u + j) := ⟨by omega, by rw [show (12 * u + j) / 12 = u by omega]; omega⟩
    have h8 := (hCP.2.2.2.1 _ hx).2.2.2
    have hih := ih n (j + 1) a (by omega) (by omega)
    have hs : a + zsm (fun j => if f = 0 then 1 else zo1 P u j) (j + 1) = a + zsm (fun j => if f = 0 then 1 else zo1 P u j) j + (if f = 0 then 1 else zo1 P u j) := by
      exact (Nat.add_assoc a _ _).symm
    rw [hs] at hih
    have hle : ¬ zcnt P u ≤ j := by omega
    unfold fX6_countMembers_15 fX6_countMembers_46 fX6_countMembers_49
    simp (disch := omega) only [zv, zgr r3, zald, hc3, zN_le, hle, if_false, zN_lit, zN_eq, zgr r8, zN_mul, zN_add]
    rw [show u * 12 + j = 12 * u + j by omega, h8]
    by_cases e : f = 0
    · rw [if_pos e] at hih ⊢; exact hih
    · rw [if_neg e] at hih ⊢
      unfold zo1 at hih
      by_cases e2 : zon P (12 * u + j) = true
      · rw [if_pos e2] at hih ⊢
        rw [if_pos rfl]; exact hih
      · rw [if_neg e2] at hih ⊢
        rw [if_neg (by rw [zN_eq (by omega) (by omega)]; omega)]; exact hih
theorem u_cm_4 (hw : zwf P) (hUN : zUN N c) (hUr : zUr m c) (hCP : zCP m c P) {f : Nat} (hf : f ≤ 1) : ∀ (dd n u : Nat), dd < n → u + dd = zn P → fX6_countMembers_4 N n c (zN f) (zN (zsm (fun u => zsm (fun j => if f = 0 then 1 else zo1 P u j) (zcnt P u)) u)) (zN u) m = some (zN (zsm (fun u => zsm (fun j => if f = 0 then 1 else zo1 P u j) (zcnt P u)) (zn P)), m) := by
  have hz := hw.1
  have hX := zXF
  have h0 := hCP.1
  intro dd
  induction dd with
  | zero =>
    intro n u hn hu
    obtain ⟨n, rfl⟩ : ∃ k, n = k + 1 := ⟨n - 1, by omega⟩
    unfold fX6_countMembers_4
    generalize XF = nf
    simp (disch := omega) only [zv, h0, zN_le]
    rw [if_pos (by omega), show u = zn P by omega]
  | succ dd ih =>
    intro n u hn hu
    obtain ⟨n, rfl⟩ : ∃ k, n = k + 1 := ⟨n - 1, by omega⟩
    have hcn := (hw.2.1 u (by omega)).1
    have h15 := u_cm_15 (N := N) (c := c) hw hUN hUr hCP (r4 := fun q0 x1 x2 x3 m0 => fX6_countMembers_4 N n q0 x1 x2 x3 m0) (u := u) (by omega) hf (zcnt P u) XF 0 (zsm (fun u => zsm (fun j => if f = 0 then 1 else zo1 P u j) (zcnt P u)) u) (by omega) (by omega)
    have hih := ih n (u + 1) (by omega) (by omega)
    have hle : ¬ zn P ≤ u := by omega
    unfold fX6_countMembers_4
    generalize XF = nf at h15 ⊢
    simp (disch := omega) only [zv, h0, zN_le, hle, if_false, zN_lit]
    have e0 : zsm (fun u => zsm (fun j => if f = 0 then 1 else zo1 P u j) (zcnt P u)) u + zsm (fun j => if f = 0 then 1 else zo1 P u j) 0 = zsm (fun u => zsm (fun j => if f = 0 then 1 else zo1 P u j) (zcnt P u)) u := by show _ + 0 = _; omega
    rw [e0] at h15
    rw [h15]
    exact hih
theorem y_on (hw : zwf P) (hU : yU N m P) {w : Int32} {u : Nat} (hu : u < zn P) : ∀ (dd n j a : Nat), dd < n → j + dd = zcnt P u → fX9_told_34 N n 85 w (zN (a + zsm (zo1 P u) j)) (zN (zbase P u + j)) m = fX9_told_34 N (n - dd) 85 w (zN (a + zou P u)) (zN (zbase P (u + 1))) m := by
  have hz := hw.1
  have hcn := (hw.2.1 u hu).1
  have hb := zbase_le P hw (zn P) (Nat.le_refl _)
  have hb1 := zbase_mono P (u := u + 1) (zn P) (by omega)
  obtain ⟨⟨-, -, n88, -, n90, -⟩, ⟨-, -, g9, -, g11, -⟩, -, ⟨-, h1, -, -, hm, -⟩⟩ := hU
  intro dd
  induction dd with
  | zero =>
    intro n j a hn hj
    rw [show j = zcnt P u by omega]
    rfl
  | succ dd ih =>
    intro n j a hn hj
    obtain ⟨n, rfl⟩ : ∃ k, n = k + 1 := ⟨n - 1, by omega⟩
    have hx : zok P (12 * u + j) := ⟨by omega, by rw [show (12 * u + j) / 12 = u by omega]; omega⟩
    have hmid : zmid P (12 * u + j) = zbase P u + j := by unfold zmid; rw [show (12 * u + j) / 12 = u by omega, show (12 * u + j) % 12 = j by omega]
    have h90 := (hm _ hx).2
    rw [hmid] at h90
    have hb2 : zbase P (u + 1) = zbase P u + zcnt P u := rfl
    have hih := ih n (j + 1) a (by omega) (by omega)
    have hs : a + zsm (zo1 P u) (j + 1) = a + zsm (zo1 P u) j + zo1 P u j := by
      exact (Nat.add_assoc a _ _).symm
    rw [hs] at hih
    have hle : ¬ zbase P (zn P) ≤ zbase P u + j := by omega
    rw [show n + 1 - (dd + 1) = n - dd by omega, ← hih]
    rw [fX9_told_34]
    unfold fX9_told_59
    simp (disch := omega) only [zv, zgr g9, zN_lit, zald, h1, zN_le, hle, if_false, zgr g11, h90, zN_add]
    rw [Nat.add_assoc (zbase P u)]
    by_cases e2 : zon P (12 * u + j) = true
    · rw [if_pos e2, if_pos rfl, show zo1 P u j = 1 from if_pos e2]
    · rw [if_neg e2, if_neg (by rw [zN10]; exact id), show zo1 P u j = 0 from if_neg e2]
theorem y_onAll (hw : zwf P) (hU : yU N m P) {w : Int32} : ∀ (dd n u : Nat), 13 * dd < n → u + dd = zn P → ∃ n', 1 ≤ n' ∧ fX9_told_34 N n 85 w (zN (zsm (zou P) u)) (zN (zbase P u)) m = fX9_told_34 N n' 85 w (zN (zsm (zou P) (zn P))) (zN (zbase P (zn P))) m := by
  intro dd
  induction dd with
  | zero => intro n u hn hu; exact ⟨n, by omega, by rw [show u = zn P by omega]⟩
  | succ dd ih =>
    intro n u hn hu
    have hcn := (hw.2.1 u (by omega)).1
    have h1 := y_on hw hU (w := w) (u := u) (by omega) (zcnt P u) n 0 (zsm (zou P) u) (by omega) (by omega)
    obtain ⟨n', q1, q2⟩ := ih (n - zcnt P u) (u + 1) (by omega) (by omega)
    refine ⟨n', q1, ?_⟩
    rw [← q2]
    exact h1
theorem o_told (hC : jC N m c d S) (hM : jM N m S) (x : Int32) : jOp N (fwL_told N 0 x 111 m) (fX9_told N 85 x) := by
  have hW := hC.2.2.1
  have hwf := hW.1
  have hz := hwf.1
  obtain ⟨hUN, hUr, hc50, hc0⟩ := jC_UN hC
  have g3 := hC.2.1.2.1.2.2.1
  have g4 := hC.2.1.2.1.2.2.2.1
  have hX := zXF
  rcases u_what (N := N) (m := m) (l := 5) (by omega) x with ⟨w, w1, rfl, w3, w4⟩ | ⟨w1, w2⟩
  · have hc0' : fX6_countMembers N c (zN 0) m = some (zN (zbase (jP S) (zn (jP S))), m) := by
      have := u_cm_4 (N := N) (c := c) hwf hUN hUr hC.2.2.2.1.1 (f := 0) (by omega) (zn (jP S)) XF 0 (by omega) (by omega)
      unfold fX6_countMembers
      simp only [zN_lit]
      have e : zsm (fun u => zsm (fun j => if 0 = 0 then 1 else zo1 (jP S) u j) (zcnt (jP S) u)) (zn (jP S)) = zbase (jP S) (zn (jP S)) := by
        rw [zbase_sm]
        refine zsm_ext _ (fun u _ => ?_)
        have key : ∀ n, zsm (fun j => if 0 = 0 then 1 else zo1 (jP S) u j) n = n := by
          intro n
          induction n with
          | zero => rfl
          | succ n ih => show zsm _ n + _ = n + 1; rw [ih]; rfl
        exact key _
      rw [e] at this
      exact this
    have hc1 : fX6_countMembers N c (zN 1) m = some (zN (zsm (zou (jP S)) (zn (jP S))), m) := by
      have := u_cm_4 (N := N) (c := c) hwf hUN hUr hC.2.2.2.1.1 (f := 1) (by omega) (zn (jP S)) XF 0 (by omega) (by omega)
      unfold fX6_countMembers
      simp only [zN_lit]
      exact this
    have hw6 : w = 0 ∨ w = 1 ∨ w = 2 ∨ w = 3 ∨ w = 4 ∨ w = 5 := by omega
    have h0' := hC.2.2.2.1.1.1
    have h11 := hC.2.2.2.1.1.2.1
    have h46 := hC.2.2.2.2.2.2.2.2.2.1
    have ht := hC.2.2.2.2.2.2.2.1.2.1
    refine jOp_ok (v := if w = 0 then zN (zn (jP S)) else if w = 1 then zN (zstp (jP S)).length else if w = 2 then zN (zbase (jP S) (zn (jP S))) else if w = 3 then zN (zsm (zou (jP S)) (zn (jP S))) else if w = 4 then zN (jt S) else zN (jL S).length) (m1 := m) hM ?_ hC (jfc_rf m) (fun m2 hm2 _ => y_fresh hm2 (fun h0 => ⟨_, ?_, h0.1, jfm_rf _, h0.2⟩))
    · unfold fwL_told
      refine u_fw hC.1 ?_ ?_
      · unfold fxX8_told
        simp (disch := omega) only [xcx, zcv, zN_lit, w4, w3, zgr g3, zgr g4, zv, hc0', hc1, zca, ite_self]
      · unfold fX8_told
        simp (disch := omega) only [zcv, zN_lit, w3, zgr g3, zgr g4, zv, h0', h11, hc0', hc1, zca, ht, h46, zN_eq]
        rcases hw6 with rfl | rfl | rfl | rfl | rfl | rfl <;> rfl
    · have hU := jM_U h0.1
      have hb := zbase_le (jP S) hwf (zn (jP S)) (Nat.le_refl _)
      obtain ⟨n', q1, q2⟩ := y_onAll hwf hU (w := zN w) (zn (jP S)) XF 0 (by omega) (by omega)
      obtain ⟨⟨-, -, n88, -⟩, ⟨-, -, g9, -⟩, -, ⟨k0, k1, k4, -⟩⟩ := hU
      have k2 := h0.1.2.2.2.2.2.2.2.1.2.1
      have k15 := h0.1.2.2.2.2.2.2.2.2.2.1
      have hl16 := h0.1.2.2.2.2.2.2.2.2.1
      obtain ⟨n', rfl⟩ : ∃ k, n' = k + 1 := ⟨n' - 1, by omega⟩
      have q2' : fX9_told_34 N XF 85 (zN w) (zN 0) (zN 0) (si m2 85 0 (zN 0)) = _ := q2
      unfold fX9_told fX9_told_20
      simp (disch := omega) only [zv, zN_lit, y_in1, zca, zN10, if_false, jM_bad0 h0, if_true]
      rw [q2']
      unfold fX9_told_34
      simp (disch := omega) only [zv, zgr g9, zN_lit, zald, k1, zN_le, Nat.le_refl, if_true, zN_eq, k0, k4, k2, k15]
      rcases hw6 with rfl | rfl | rfl | rfl | rfl | rfl <;> rfl
  · refine jOp_A (k := 1) (w := zN 0) hC hM (by omega) (by omega) ?_ (fun h0 => ?_)
    · unfold fwL_told
      rw [u_fwx (E := xIA) (m1 := ubA m)]
      · rw [if_pos rfl]; rfl
      · unfold fxX8_told
        simp only [xcx, zcv, zN_lit, w2]
    · unfold fX9_told fX9_told_20
      simp only [zv, zN_lit, y_in0 (show 5 < 2147483647 by omega) w1, zca, if_true, jM_bad1 h0 (show 1 ≤ 1 by omega) (by omega) (show 1 < 2 by omega), zN10, if_false]
/-- the print -/
def zpr1 (P : zP) (s : zS) (u : Nat) : Nat → Nat → Int64 → Int64
  | 0, _, v => v
  | dd + 1, i, v => zpr1 P s u dd (i + 1) (if zknd P (12 * u + zplc P u i) = 1 then v * 31 + (zval s (12 * u + zplc P u i)).toInt64 else v)
def zpr (P : zP) (s : zS) : Nat → Nat → Int64 → Int64
  | 0, _, v => v
  | dd + 1, u, v => zpr P s dd (u + 1) (zpr1 P s u (zcnt P u) 0 (v * 31 + (zN (zst s u)).toInt64))
theorem u_print_39 (hw : zwf P) (hN : jN N) {q : Bool × zS} (hC : jC N m c d S) (hP : jP S = P) (hF : zFin true m 50 P q) (hU : zU N m 50 c P) {r8 : Nat → Int64 → Int32 → XM → Option (Int64 × XM)} {u : Nat} (hu : u < zn P) : ∀ (dd n i : Nat) (v : Int64), dd < n → i + dd = zcnt P u → fX8_print_39 N r8 n 0 v (zN u) (zN i) m = r8 0 (zpr1 P q.2 u dd i v) (zN (u + 1)) m := by
  have hz := hw.1
  have hcn := (hw.2.1 u hu).1
  obtain ⟨⟨-, -, u3, u4, -, -, -, -, u9, -⟩, -, -, -, ⟨-, -, r3, r4, -, -, -, -, r9, -⟩, ⟨-, -, hd3, hd4, hd5, -⟩, ⟨-, -, r2, -⟩⟩ := hU
  have hN52 : N 52 = 84 := hN.2.2.2.2.2.1.2.1
  have r52 : gr m 50 2 = some 52 := r2
  have g3 := hC.2.1.2.1.2.2.1
  have g5 := hC.2.1.2.1.2.2.2.2.1
  have hc3 := (hd3 u hu).2.2
  intro dd
  induction dd with
  | zero =>
    intro n i v hn hi
    obtain ⟨n, rfl⟩ : ∃ k, n = k + 1 := ⟨n - 1, by omega⟩
    unfold fX8_print_39
    simp (disch := omega) only [zv, zgr g3, zgr r3, zald, hc3, zN_le, zN_lit, zN_add]
    rw [if_pos (by omega)]
    rfl
  | succ dd ih =>
    intro n i v hn hi
    obtain ⟨n, rfl⟩ : ∃ k, n = k + 1 := ⟨n - 1, by omega⟩
    have hok := zplc_ok hw hu (i := i) (by omega)
    have h84 := zok_84 hw hok
    have hp := hd5 u i hu (by omega)
    have hk := (hd4 _ hok).1
    have hk4 := (hw.2.2.1 _ hok).1
    have hv : gi m 52 (12 * u + zplc P u i) = zval q.2 (12 * u + zplc P u i) := hF.2.1.2.1 _ hok
    have hmA : fX6_memberAt N c (zN u) (zN i) m = some (zN (12 * u + zplc P u i), m) := by
      unfold fX6_memberAt
      simp (disch := omega) only [zgr r9, zv, zN_lit, zN_mul, zN_add, zald]
      rw [show u * 12 + i = 12 * u + i by omega, hp]
    have hle : ¬ zcnt P u ≤ i := by omega
    have hih := fun v => ih n (i + 1) v (by omega) (by omega)
    unfold fX8_print_39 fX8_print_97
    simp (disch := omega) only [zv, zgr g3, zgr r3, zald, hc3, zN_le, hle, if_false, hmA, zca, zgr r4, hk, zN_lit, zN_eq, zgr g5, zgr r52, hv, zN_add]
    show _ = r8 0 (zpr1 P q.2 u dd (i + 1) (if zknd P (12 * u + zplc P u i) = 1 then v * 31 + (zval q.2 (12 * u + zplc P u i)).toInt64 else v)) (zN (u + 1)) m
    by_cases e : zknd P (12 * u + zplc P u i) = 1
    · rw [if_pos e, if_pos e]; exact hih _
    · rw [if_neg e, if_neg e]; exact hih _
end UG
