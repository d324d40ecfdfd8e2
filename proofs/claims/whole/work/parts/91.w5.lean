/-! ===== w: the class's leaps ===== -/
def wS (m m' : XM) : Prop := zfr 63 79 m m' ∧ (∀ k, gi m' 76 k = gi m 76 k) ∧ (∀ a k, 76 ≤ a → gr m' a k = gr m a k) ∧ (∀ a k, 76 ≤ a → a ≠ 78 → gl m' a k = gl m a k) ∧ (∀ k, k = 0 ∨ 4 ≤ k → gi m' 77 k = gi m 77 k) ∧ gi m' 74 0 = gi m 74 0
theorem wS_rf (m : XM) : wS m m := ⟨zfr_rf _ _ m, fun _ => rfl, fun _ _ _ => rfl, fun _ _ _ _ => rfl, fun _ _ => rfl, rfl⟩
theorem wS_tr {m m1 m2 : XM} (h : wS m m1) (g : wS m1 m2) : wS m m2 :=
  ⟨zfr_tr h.1 g.1, fun k => (g.2.1 k).trans (h.2.1 k), fun a k q => (g.2.2.1 a k q).trans (h.2.2.1 a k q), fun a k q q1 => (g.2.2.2.1 a k q q1).trans (h.2.2.2.1 a k q q1), fun k q => (g.2.2.2.2.1 k q).trans (h.2.2.2.2.1 k q), g.2.2.2.2.2.trans h.2.2.2.2.2⟩
theorem wS_r {m m' : XM} (h : zfr 63 76 m m') (h0 : gi m' 74 0 = gi m 74 0) : wS m m' :=
  ⟨zfr_wd h (by omega) (by omega), fun k => (h 76 (by omega)).1 k, fun a k q => (h a (by omega)).2.2 k, fun a k q _ => (h a (by omega)).2.1 k, fun k _ => (h 77 (by omega)).1 k, h0⟩
theorem wS_si {m m1 : XM} {k : Nat} {v : Int32} (h : wS m m1) (hk : 1 ≤ k ∧ k ≤ 3) : wS m (si m1 77 k v) :=
  wS_tr h ⟨zfr_si m1 (by omega) (by omega), fun j => gi_ne (by omega), fun _ _ _ => rfl, fun _ _ _ _ => rfl, fun j hj => gi_ne (by omega), gi_ne (by omega)⟩
theorem wS_sl {m m1 : XM} {k : Nat} {v : Int64} (h : wS m m1) : wS m (sl m1 78 k v) :=
  wS_tr h ⟨zfr_sl (zfr_rf _ _ m1) (by omega) (by omega), fun j => rfl, fun _ _ _ => rfl, fun a j _ hj => gl_ne (by omega), fun j hj => rfl, rfl⟩
def wX (N : Nat → Nat) (m : XM) (c : Nat) (P : zP) : Prop := zUN N c ∧ zRN N 63 ∧ c + 18 ≤ 63 ∧ zwf P ∧ zUr m c ∧ zCP m c P ∧ (∃ c0, zRr m 63 c0) ∧ (∃ p, gi m 63 16 = zN p ∧ p ≤ 10) ∧ N 78 = 17496 ∧ (gr m 77 4 = some 63 ∧ gr m 77 5 = some c ∧ gr m 77 6 = some 78)
def wlg (q : Nat × Nat × Nat) : Nat := (q.1 * 4096 + q.2.1) * 4096 + q.2.2
def wM (m : XM) (P : zP) : Prop := ∀ l x, l < 2187 → x < 8 → gl m 78 (l * 8 + x) = -1 ∨ gl m 78 (l * 8 + x) = zQ64 (wlg (zlp P l x))
theorem wX_S {N : Nat → Nat} {m m' : XM} {c : Nat} {P : zP} (h : wX N m c P) (g : wS m m') (hr : ∃ c0, zRr m' 63 c0) (hp : ∃ p, gi m' 63 16 = zN p ∧ p ≤ 10) : wX N m' c P := by
  obtain ⟨h1, h2, h3, h4, h5, h6, h7, h8, h9, h10, h11, h12⟩ := h
  refine ⟨h1, h2, h3, h4, zUr_fr (fun a k q1 q2 => (g.1 a (by omega)).2.2 k) h5, zCP_fr (fun a k q1 q2 => (g.1 a (by omega)).1 k) h6, hr, hp, h9, ?_, ?_, ?_⟩
  · rw [g.2.2.1 _ _ (by omega)]; exact h10
  · rw [g.2.2.1 _ _ (by omega)]; exact h11
  · rw [g.2.2.1 _ _ (by omega)]; exact h12
theorem q64_shl24' {n : Nat} (hn : n < 2147483648) : zQ64 n <<< (zQ64 24 &&& 63) = zQ64 (n * 16777216) := by
  rw [← q64_of (show 24 < 2147483648 by omega)]; exact q64_shl24 hn
theorem q64_shl12' {n : Nat} (hn : n < 2147483648) : zQ64 n <<< (zQ64 12 &&& 63) = zQ64 (n * 4096) := by
  rw [← q64_of (show 12 < 2147483648 by omega)]; exact q64_shl12 hn
theorem wlg_much (l : Nat) : wlg (0, 3001, l) = 12292096 + l := by
  unfold wlg
  simp only []
section WE
variable {N : Nat → Nat} {m : XM} {c : Nat} {P : zP}
theorem zLk_Si (p l : Nat) (hp : p ≤ 10) : zSi P (zLk p l) :=
  ⟨zLs_le l, Nat.zero_le _, fun x hx => (by cases hx), Nat.zero_le _, Nat.zero_le _, Nat.zero_le _, hp, (by
      show 0 + zfree _ ≤ 7
      unfold zfree zb
      repeat' split
      all_goals omega), fun q hq => (by cases hq)⟩
theorem zLp_Si (hw : zwf P) {p l x : Nat} (hp : p ≤ 10) (hx : x = 7 ∨ x < zn P) : zSi P (zLp P p l x).2 := by
  have hz := hw.1
  unfold zLp
  by_cases e : x = 7
  · rw [if_pos e]
    exact (zSteps_ok hw (zstp P) (zs_sp (zLk p l) 0) (fun d hd => hw.2.2.2.2 d hd) (zSi_sp (zLk_Si p l hp) (by omega)) rfl (by show 0 + _ ≤ 10; have := hw.2.2.2.1; omega)).1
  · rw [if_neg e]
    exact ((zI_L hw 20).1 x (zLk p l) (by omega) (zLk_Si p l hp) rfl).1
theorem zlp_bd (hw : zwf P) {l x : Nat} (hx : x = 7 ∨ x < zn P) (hl : l < 2187) : (zlp P l x).1 ≤ 3000 ∧ (zlp P l x).2.1 ≤ 3001 ∧ (zlp P l x).2.2 < 2187 := by
  have h := zLp_Si hw (p := 0) (l := l) (by omega) hx
  unfold zlp
  by_cases c : (zLp P 0 l x).1 = true
  · rw [if_pos c]; exact ⟨Nat.zero_le _, Nat.le_refl _, hl⟩
  · rw [if_neg c]
    have h1 := h.2.2.2.1
    have h2 := h.2.2.2.2.1
    exact ⟨Nat.le_trans h2 h1, Nat.le_succ_of_le h1, zlook_lt h.1⟩
theorem wc_set_15 (l : Nat) (hN : N 64 = 7) : ∀ (d n u : Nat) (m : XM), d < n → u + d = 7 → gr m 77 4 = some 63 → gr m 63 1 = some 64 → l < 2187 →
    ∃ m', fX3_setStates_15 N n 77 (zN (l / 3 ^ u)) (zN u) m = some m' ∧ (∀ a k, gr m' a k = gr m a k) ∧ (∀ a k, gl m' a k = gl m a k) ∧ (∀ a k, a ≠ 64 → gi m' a k = gi m a k) ∧ ∀ k, gi m' 64 k = if u ≤ k ∧ k < 7 then zN (zLs l k) else gi m 64 k := by
  intro d
  induction d with
  | zero =>
    intro n u m hn hu h4 h1 hl
    obtain ⟨n, rfl⟩ : ∃ k, n = k + 1 := ⟨n - 1, by omega⟩
    refine ⟨m, ?_, fun _ _ => rfl, fun _ _ => rfl, fun _ _ _ => rfl, fun k => by rw [if_neg (by omega)]⟩
    unfold fX3_setStates_15
    simp (disch := omega) only [zv, zN_lit, zN_le]
    rw [if_pos (by omega)]
  | succ d ih =>
    intro n u m hn hu h4 h1 hl
    obtain ⟨n, rfl⟩ : ∃ k, n = k + 1 := ⟨n - 1, by omega⟩
    have hlt : l / 3 ^ u ≤ l := Nat.div_le_self _ _
    have hdd : l / 3 ^ u / 3 = l / 3 ^ (u + 1) := by rw [Nat.div_div_eq_div_mul, ← Nat.pow_succ]
    obtain ⟨m', p1, p2, p3, p4, p5⟩ := ih n (u + 1) (si m 64 u (zN (zLs l u))) (by omega) (by omega) h4 h1 hl
    have hrem : xrem (zN (l / 3 ^ u)) (zN 3) = zN (l / 3 ^ u % 3) := zN_rem (by omega) (by omega)
    have hdv : zN (l / 3 ^ u) / zN 3 = zN (l / 3 ^ (u + 1)) := by rw [zN_div (by omega) (by omega), hdd]
    have hL : zLs l u = zds (l / 3 ^ u % 3) := if_pos (by omega)
    refine ⟨m', ?_, p2, p3, fun a k ha => ?_, fun k => ?_⟩
    · unfold fX3_setStates_15 fX3_setStates_51
      simp (disch := omega) only [zv, zN_lit, zN_le]
      rw [if_neg (by omega)]
      simp (disch := omega) only [zdv, hrem, hdv, zgr h4, zgr h1, zN_eq, zast, zN_add]
      rw [← p1, hL]
      unfold zds
      by_cases e : l / 3 ^ u % 3 = 0
      · rw [if_pos e, if_pos e]
      · rw [if_neg e, if_neg e]
    · rw [p4 a k ha, gi_ne (by omega)]
    · rw [p5 k]
      by_cases e : k = u
      · subst e; rw [if_neg (by omega), if_pos (by omega), gi_si]
      · by_cases e2 : u ≤ k ∧ k < 7
        · rw [if_pos (by omega), if_pos e2]
        · rw [if_neg (by omega), if_neg e2, gi_ne (by omega)]
theorem wc_set (hX : wX N m c P) {l : Nat} (hl : l < 2187) : ∃ m' p, fX3_setStates N 77 (zN l) m = some m' ∧ zfr 63 76 m m' ∧ zU N m' 63 c P ∧ zCR false m' 63 P (zLk p l) ∧ p ≤ 10 ∧ gi m' 74 0 = gi m 74 0 := by
  obtain ⟨h1, h2, h3, h4, h5, h6, ⟨c0, h7⟩, ⟨p, h8, h8'⟩, h9, h10, h11, h12⟩ := hX
  obtain ⟨m1, a1, a2, a3, a4, a5⟩ := zc_reset (t := false) h1 h2 h3 h4 h5 h6 h7 h8 h8'
  unfold fX3_setStates
  have hX := zXF
  revert hX
  generalize XF = nf
  intro hX
  have hU := a3
  obtain ⟨-, -, -, -, -, -, ⟨-, g1, -⟩⟩ := hU
  obtain ⟨m2, b1, b2, b3, b4, b5⟩ := wc_set_15 (N := N) l h2.1 7 nf 0 m1 (by omega) (by omega) (by rw [(a2 77 (by omega)).2.2]; exact h10) g1 hl
  have f2 : zfr 63 76 m1 m2 := fun a ha => ⟨fun k => b4 a k (by omega), fun k => b3 a k, fun k => b2 a k⟩
  refine ⟨m2, p, ?_, zfr_tr a2 f2, zU_fr a3 f2 (fun a k _ _ => b2 a k), ?_, h8', ?_⟩
  · simp only [zgr h10, zgr h11, a1, zcv, zN_lit]
    rw [Nat.pow_zero, Nat.div_one] at b1
    exact b1
  · obtain ⟨-, ⟨q1, q2, q3, q4, q5, q6, q7, q8, q9, q10, q11, q12⟩, o1, o2, o3⟩ := a4
    have hne : ∀ u, zLs l u ≠ 1 := fun u => by unfold zLs zds; split; split <;> omega; omega
    refine ⟨zLk_Si p l h8', ⟨fun u hu => ?_, fun x hx => ?_, fun x hx hs => absurd hs (hne _), ?_, trivial, ?_, ?_, ?_, ?_, ?_, fun g => (by cases g), fun k q _ _ hq => (by cases hq)⟩, ?_, trivial, ?_⟩
    · rw [b5, if_pos (by omega)]; rfl
    · rw [b4 _ _ (by omega)]; exact q2 x hx
    · rw [b4 _ _ (by omega)]; exact q4
    · rw [b4 _ _ (by omega)]; exact q6
    · rw [b4 _ _ (by omega)]; exact q7
    · rw [b4 _ _ (by omega)]; exact q8
    · rw [b4 _ _ (by omega)]; exact q9
    · rw [b4 _ _ (by omega)]; exact q10
    · rw [b4 _ _ (by omega)]; exact o1
    · rw [b4 _ _ (by omega)]; exact o3
  · rw [b4 _ _ (by omega)]; exact a5 0
theorem wlg_or (s w l : Nat) (hs : s ≤ 3000) (hw : w ≤ 3001) (hl : l < 4096) : zQ64 (s * 16777216) ||| zQ64 (w * 4096) ||| zQ64 l = zQ64 (wlg (s, w, l)) := by
  have e1 := q64_or (a := s) (b := w * 4096) (k := 24) (by omega)
  have e2 := q64_or (a := s * 4096 + w) (b := l) (k := 12) (by omega)
  simp only [Nat.reducePow] at e1 e2
  rw [e1, show s * 16777216 + w * 4096 = (s * 4096 + w) * 4096 by omega, e2]
  rfl
theorem wc_done_22 {st : Nat → Nat} {sr wk : Nat} (hN : N 64 = 7) (h3 : ∀ u, st u ≤ 3) (hs : sr ≤ 3000) (hwk : wk ≤ 3001) (h4 : gr m 77 4 = some 63) (h1 : gr m 63 1 = some 64) (h12 : gi m 63 12 = zN sr) (h11 : gi m 63 11 = zN wk) (hst : ∀ u, u < 7 → gi m 64 u = zN (st u)) : ∀ (k n d : Nat), k < n → d + k = 7 → zlkr st d < 2187 →
    fX3_leapDone_22 N n 77 (zN (zlkr st d)) (if d = 7 then zM else zN (6 - d)) m = some (zQ64 (wlg (sr, wk, zlook st)), m) := by
  have hL := zlook_lt h3
  intro k
  induction k with
  | zero =>
    intro n d hn hd _
    obtain ⟨n, rfl⟩ : ∃ k, n = k + 1 := ⟨n - 1, by omega⟩
    have hd7 : d = 7 := by omega
    subst hd7
    have e : zlkr st 7 = zlook st := rfl
    rw [if_pos rfl, e]
    unfold fX3_leapDone_22
    simp (disch := omega) only [zv, zN_lit, zm_lt, if_true, zgr h4, h12, h11, q64_of, q64_shl24', q64_shl12', wlg_or]
  | succ k ih =>
    intro n d hn hd hlt
    obtain ⟨n, rfl⟩ : ∃ k, n = k + 1 := ⟨n - 1, by omega⟩
    have hs6 := hst (6 - d) (by omega)
    have h36 := h3 (6 - d)
    have hnx : (if d + 1 = 7 then zM else zN (6 - (d + 1))) = zN (6 - d) + zM := by
      by_cases e : d + 1 = 7
      · rw [if_pos e, show 6 - d = 0 by omega, zN_dec0]
      · rw [if_neg e, zN_dec (by omega)]; congr 1
    have hlt1 : zlkr st (d + 1) < 2187 := by
      have hb : ∀ e, e ≤ 7 → zlkr st e < 3 ^ e := by
        intro e
        induction e with
        | zero => intro _; show 0 < 1; omega
        | succ e ihe =>
          intro he
          have := ihe (by omega)
          have h2 := zdi_lt (h3 (6 - e))
          show zlkr st e * 3 + zdi (st (6 - e)) < 3 ^ e * 3
          omega
      have h1 := hb (d + 1) (by omega)
      have h2 : 3 ^ (d + 1) ≤ 3 ^ 7 := Nat.pow_le_pow_right (by omega) (by omega)
      omega
    have hih := ih n (d + 1) (by omega) (by omega) hlt1
    rw [hnx] at hih
    have hnlt : (zN (6 - d) < zN 0) = False := by rw [zN_lt (by omega) (by omega)]; exact propext ⟨fun h => (by omega), fun h => h.elim⟩
    rw [if_neg (by omega)]
    unfold fX3_leapDone_22 fX3_leapDone_56
    simp (disch := omega) only [zv, zN_lit, hnlt, if_false, zN_mul, zgr h4, zgr h1, zald, hs6, zN_eq, zneg]
    rw [← hih]
    show _ = fX3_leapDone_22 N n 77 (zN (zlkr st d * 3 + zdi (st (6 - d)))) (zN (6 - d) + zM) m
    unfold zdi
    by_cases e : st (6 - d) = 0
    · rw [if_pos e, if_pos e, zN_add]
    · rw [if_neg e, if_neg e, zN_sub (by omega), zN_add]
theorem wc_leap (hX : wX N m c P) (hM : wM m P) {l x : Nat} (hl : l < 2187) (hx : x = 7 ∨ x < zn P) :
    ∃ m', fX3_leapFrom N 77 (zN l) (zN x) m = some (zQ64 (wlg (zlp P l x)), m') ∧ wX N m' c P ∧ wM m' P ∧ wS m m' ∧ ∀ k, gi m' 77 k = gi m 77 k := by
  have hw := hX.2.2.2.1
  have hz := hw.1
  have hbd := zlp_bd hw hx hl
  have hq : wlg (zlp P l x) < 9223372036854775808 := by unfold wlg; omega
  have hX0 := hX
  obtain ⟨h1, h2, h3, h4, h5, h6, h7, h8, h9, h10, h11, h12⟩ := hX
  unfold fX3_leapFrom
  simp (disch := omega) only [zv, zN_lit, zN_mul, zN_add, zgr h12, zlld]
  rcases hM l x hl (by omega) with e | e
  · rw [e, q64_cmp0, if_pos rfl]
    obtain ⟨m1, p, a1, a2, a3, a4, a5, a6⟩ := wc_set hX0 hl
    have g4 : gr m1 77 4 = some 63 := by rw [(a2 77 (by omega)).2.2]; exact h10
    have hfin : ∀ m2 (q : Bool × zS), zfq 63 m1 m2 → zFin false m2 63 P q → q = zLp P p l x → ∃ m', fX3_leapFrom_50 N 77 (zN l) (zN (l * 8 + x)) m2 = some (zQ64 (wlg (zlp P l x)), m') ∧ wX N m' c P ∧ wM m' P ∧ wS m m' ∧ ∀ k, gi m' 77 k = gi m 77 k := by
      intro m2 q f2 hF hqe
      have hU2 := zU_q a3 f2
      have hSi2 := hF.1
      obtain ⟨-, ⟨q1, q2, q3, q4, q5, q6, q7, q8, q9, q10, -⟩, hF15, -⟩ := hF
      have f2' := f2.1
      have s2 : wS m m2 := wS_tr (wS_r a2 a6) (wS_r f2.1 f2.2.2)
      have k4 : gr m2 77 4 = some 63 := by rw [s2.2.2.1 _ _ (by omega)]; exact h10
      have k6 : gr m2 77 6 = some 78 := by rw [s2.2.2.1 _ _ (by omega)]; exact h12
      have k1 : gr m2 63 1 = some 64 := hU2.2.2.2.2.2.2.2.1
      have hdone : fX3_leapDone N 77 (zN l) m2 = some (zQ64 (wlg (zlp P l x)), m2) := by
        rw [zlp_p P p l x, ← hqe]
        unfold fX3_leapDone
        have hX := zXF
        revert hX
        generalize XF = nf
        intro hX
        simp (disch := omega) only [zv, zN_lit, zgr k4, hF15]
        by_cases c : q.1 = true
        · rw [c]
          simp (disch := omega) only [if_true, zN10, if_false, q64_of]
          have e3 := q64_or (a := 3001) (b := l) (k := 12) (by omega)
          simp only [Nat.reducePow, Nat.reduceMul] at e3
          rw [q64_lit, e3, wlg_much]
        · have cf : q.1 = false := by cases h : q.1; rfl; exact absurd h c
          rw [cf]
          simp only [Bool.false_eq_true, if_false, if_true]
          exact wc_done_22 (N := N) (st := zst q.2) h2.1 hSi2.1 (by have := hSi2.2.2.2.1; have := hSi2.2.2.2.2.1; omega) (by have := hSi2.2.2.2.1; omega) k4 k1 q7 q6 q1 7 nf 0 (by omega) (by omega) (by show 0 < 2187; omega)
      refine ⟨sl m2 78 (l * 8 + x) (zQ64 (wlg (zlp P l x))), ?_, ?_, ?_, wS_sl s2, fun k => ?_⟩
      · unfold fX3_leapFrom_50 fX3_leapFrom_61
        simp (disch := omega) only [zgr k6, hdone, zca, zlst, zgr_sl, zlld, gl_sl]
      · refine wX_S hX0 (wS_sl s2) ⟨c, ?_⟩ ⟨zsp q.2, q10, hSi2.2.2.2.2.2.2.1⟩
        exact hU2.2.2.2.2.2.2
      · intro l' x' hl' hx'
        by_cases e1 : l' * 8 + x' = l * 8 + x
        · have : l' = l ∧ x' = x := by omega
          rw [this.1, this.2, gl_sl]
          exact Or.inr rfl
        · rw [gl_ne (by omega), (f2.1 78 (by omega)).2.1, (a2 78 (by omega)).2.1]
          exact hM l' x' hl' hx'
      · rw [gi_sl, (f2.1 77 (by omega)).1, (a2 77 (by omega)).1]
    rw [a1]
    by_cases e7 : x = 7
    · subst e7
      obtain ⟨m2, b1, b2, b3⟩ := zc_runMain hw a3 a4 rfl
      simp only [zcv, if_true, zgr g4, b1]
      exact hfin m2 _ b2 b3 (by unfold zLp; rw [if_pos rfl])
    · have hxn : x < zn P := by omega
      have hQ := zg_touch (N := N) (t := false) (r := 63) (c := c) hw m1 (zLk p l) x hxn a3 a4 rfl
      have hI : zSi P ((zL P 20).1 x (zLk p l)).2.2 := ((zI_L hw 20).1 x (zLk p l) hxn (zLk_Si p l a5) rfl).1
      have hO := (zKo_L P 20).1 x (zLk p l)
      have hLp : zLp P p l x = (decide (((zL P 20).1 x (zLk p l)).1 = 2), ((zL P 20).1 x (zLk p l)).2.2) := if_neg e7
      simp (disch := omega) only [zcv, zN_eq, e7, if_false, zgr g4]
      generalize (zL P 20).1 x (zLk p l) = r at hQ hI hO hLp
      obtain ⟨b, m2, q1, q2, q3, q4, q5, q6⟩ := hQ
      rw [q1, zca]
      refine hfin m2 (decide (r.1 = 2), r.2.2) q2 ?_ hLp.symm
      have hc : r.1 = 0 ∨ r.1 = 1 ∨ r.1 = 2 := by omega
      rcases hc with e | e | e
      · obtain ⟨-, p2, p3, -, -⟩ := q4 e
        rw [e]
        exact ⟨hI, p2, p3.2.2, fun _ => ⟨p3, hO (by omega)⟩⟩
      · obtain ⟨-, p2, p3⟩ := q5 e
        have ho1 : zopn r.2.2 = [] := hO (by omega)
        rw [ho1] at p2 p3
        have eU : zUn [] r.2.2 = r.2.2 := zs_opn_id ho1
        rw [eU] at p2 p3
        rw [e]
        exact ⟨hI, p2, p3.2.2, fun _ => ⟨p3, ho1⟩⟩
      · obtain ⟨-, p2, p3⟩ := q6 e
        rw [e]
        exact ⟨hI, p2, p3, fun g => (by cases g)⟩
  · rw [e, q64_cmp hq]
    refine ⟨m, ?_, hX0, hM, wS_rf m, fun _ => rfl⟩
    unfold fX3_leapFrom_61
    simp (disch := omega) only [zN10, if_false, zgr h12, zlld, e]
end WE
