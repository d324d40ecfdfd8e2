/-! ===== u: print, member ===== -/
section UH
variable {N : Nat → Nat} {m : XM} {c d : Nat} {S : zJ} {P : zP}
theorem u_print_8 (hw : zwf P) (hN : jN N) {q : Bool × zS} (hC : jC N m c d S) (hP : jP S = P) (hF : zFin true m 50 P q) (hU : zU N m 50 c P) : ∀ (dd n u : Nat) (v : Int64), dd < n → u + dd = zn P → fX8_print_8 N n 0 v (zN u) m = some (zpr P q.2 dd u v, m) := by
  have hz := hw.1
  have g3 := hC.2.1.2.1.2.2.1
  have g5 := hC.2.1.2.1.2.2.2.2.1
  have h0 := hU.2.2.2.2.2.1.1
  have hN51 : N 51 = 7 := hN.2.2.2.2.2.1.1
  have r51 : gr m 50 1 = some 51 := hU.2.2.2.2.2.2.2.1
  have hX := zXF
  intro dd
  induction dd with
  | zero =>
    intro n u v hn hu
    obtain ⟨n, rfl⟩ : ∃ k, n = k + 1 := ⟨n - 1, by omega⟩
    unfold fX8_print_8
    generalize XF = nf
    simp (disch := omega) only [zv, zgr g3, h0, zN_le]
    rw [if_pos (by omega)]
    rfl
  | succ dd ih =>
    intro n u v hn hu
    obtain ⟨n, rfl⟩ : ∃ k, n = k + 1 := ⟨n - 1, by omega⟩
    have hcn := (hw.2.1 u (by omega)).1
    have hst : gi m 51 u = zN (zst q.2 u) := hF.2.1.1 u (by omega)
    have h39 := fun v => u_print_39 (N := N) (c := c) (d := d) (S := S) hw hN hC hP hF hU (r8 := fun q0 x1 x3 m0 => fX8_print_8 N n q0 x1 x3 m0) (u := u) (by omega) (zcnt P u) XF 0 v (by omega) (by omega)
    have hle : ¬ zn P ≤ u := by omega
    unfold fX8_print_8
    generalize XF = nf at h39 ⊢
    simp (disch := omega) only [zv, zgr g3, h0, zN_le, hle, if_false, zgr g5, zgr r51, zald, hst, zN_lit]
    rw [h39]
    exact ih n (u + 1) _ (by omega) (by omega)
theorem y_print_40 (hw : zwf P) (hU : yU N m P) {q : Bool × zS} (hF : yFs m P q) {r13 : Nat → Int64 → Int32 → XM → Option (Int64 × XM)} {u : Nat} (hu : u < zn P) : ∀ (dd n i : Nat) (v : Int64), dd < n → i + dd = zcnt P u → fX9_print_40 N r13 n 85 v (zN u) (zN i) m = r13 85 (zpr1 P q.2 u dd i v) (zN (u + 1)) m := by
  have hz := hw.1
  have hcn := (hw.2.1 u hu).1
  obtain ⟨⟨-, -, n88, -, -, -, -, -, -, -, n96, -⟩, ⟨-, -, g9, -, -, -, -, -, -, -, g20, -⟩, -, ⟨-, -, -, hu0, hm, -⟩⟩ := hU
  have hc := (hu0 u hu).2.2.1
  intro dd
  induction dd with
  | zero =>
    intro n i v hn hi
    obtain ⟨n, rfl⟩ : ∃ k, n = k + 1 := ⟨n - 1, by omega⟩
    unfold fX9_print_40
    simp (disch := omega) only [zv, zgr g9, zN_lit, yo_unit, zca, hc, zN_le, zN_add]
    rw [if_pos (by omega)]
    rfl
  | succ dd ih =>
    intro n i v hn hi
    obtain ⟨n, rfl⟩ : ∃ k, n = k + 1 := ⟨n - 1, by omega⟩
    have hp := (hu0 u hu).2.2.2 i (by omega)
    have hok := zplc_ok hw hu (i := i) (by omega)
    have hmid := zmid_lt hw hok
    have hme := zmid_plc hw hu (i := i) (by omega)
    have y0 := (hm _ hok).1.1
    have hk4 := (hw.2.2.1 _ hok).1
    have hv := hF.2.2.1 _ hok
    rw [hme] at y0 hv
    have e0 := yo_mem (m := m) (a := 88) (x := zbase P u + zplc P u i) (w := 0) n88 (by omega) (by omega)
    rw [Nat.add_zero, y0] at e0
    have hle : ¬ zcnt P u ≤ i := by omega
    have hih := fun v => ih n (i + 1) v (by omega) (by omega)
    have h31 : (31 : Int64) * v = v * 31 := Int64.mul_comm _ _
    unfold fX9_print_40 fX9_print_99
    simp (disch := omega) only [zv, zgr g9, zN_lit, yo_unit, zca, hc, zN_le, hle, if_false, yo_memb, hp, e0, zN_eq, zgr g20, zald, hv, h31, zN_add]
    show _ = r13 85 (zpr1 P q.2 u dd (i + 1) (if zknd P (12 * u + zplc P u i) = 1 then v * 31 + (zval q.2 (12 * u + zplc P u i)).toInt64 else v)) (zN (u + 1)) m
    by_cases e : zknd P (12 * u + zplc P u i) = 1
    · rw [if_pos e, if_pos e]; exact hih _
    · rw [if_neg e, if_neg e]; exact hih _
theorem y_print_13 (hw : zwf P) (hU : yU N m P) {q : Bool × zS} (hF : yFs m P q) : ∀ (dd n u : Nat) (v : Int64), dd < n → u + dd = zn P → fX9_print_13 N n 85 v (zN u) m = some (zpr P q.2 dd u v, m) := by
  have hz := hw.1
  have hU0 := hU
  obtain ⟨⟨-, -, n88, -, -, -, -, -, n94, -⟩, ⟨-, -, g9, -, -, -, -, -, g18, -⟩, -, ⟨h0, -⟩⟩ := hU
  have hX := zXF
  intro dd
  induction dd with
  | zero =>
    intro n u v hn hu
    obtain ⟨n, rfl⟩ : ∃ k, n = k + 1 := ⟨n - 1, by omega⟩
    unfold fX9_print_13
    generalize XF = nf
    simp (disch := omega) only [zv, zgr g9, zN_lit, zald, h0, zN_le]
    rw [if_pos (by omega)]
    rfl
  | succ dd ih =>
    intro n u v hn hu
    obtain ⟨n, rfl⟩ : ∃ k, n = k + 1 := ⟨n - 1, by omega⟩
    have hcn := (hw.2.1 u (by omega)).1
    have hst := hF.2.1 u (by omega)
    have h40 := fun v => y_print_40 (N := N) hw hU0 hF (r13 := fun q0 x1 x3 m0 => fX9_print_13 N n q0 x1 x3 m0) (u := u) (by omega) (zcnt P u) XF 0 v (by omega) (by omega)
    have hle : ¬ zn P ≤ u := by omega
    have h31 : (31 : Int64) * v = v * 31 := Int64.mul_comm _ _
    unfold fX9_print_13
    generalize XF = nf at h40 ⊢
    simp (disch := omega) only [zv, zgr g9, zN_lit, zald, h0, zN_le, hle, if_false, zgr g18, hst, h31]
    rw [h40]
    exact ih n (u + 1) _ (by omega) (by omega)
theorem o_print (hC : jC N m c d S) (hM : jM N m S) : ∃ v m1 m2 c d S, fX8_print N 0 m = some (v, m1) ∧ fX9_print N 85 m1 = some (v, m2) ∧ jC N m2 c d S ∧ jM N m2 S := by
  have hwf := hC.2.2.1.1
  have hz := hwf.1
  have hX := zXF
  obtain ⟨m1, a1, a2, a3, a4, a5, a6, a7⟩ := u_plain hC
  obtain ⟨b1, b2⟩ := jM_0 (jM_c hM a3)
  obtain ⟨m3, c1, c2, c3, c4, c5⟩ := y_lays b1.1
  refine ⟨zpr (jP S) (zPlain (jP S)).2 (zn (jP S)) 0 0, m1, m3, c, d, S, ?_, ?_, jC_m a2 (jfm_tr b2 c3), c2⟩
  · unfold fX8_print
    simp only [a1, zcv, zN_lit]
    exact u_print_8 hwf hC.1 a2 rfl a6 a7 (zn (jP S)) XF 0 _ (by omega) (by omega)
  · unfold fX9_print
    simp only [zv, zN_lit, c1, zcv]
    exact y_print_13 hwf (jM_U c2) (yFs_show c5) (zn (jP S)) XF 0 _ (by omega) (by omega)
/-- terms of a sum -/
def zcl1 : List zCode → Nat
  | [] => 0
  | q :: l => zcl1 l + if q.1 ≤ 3 then 1 else 0
theorem zcl1_app : ∀ (l l' : List zCode), zcl1 (l ++ l') = zcl1 l + zcl1 l'
  | [], l' => by show zcl1 l' = 0 + zcl1 l'; omega
  | q :: l, l' => by
    show zcl1 (l ++ l') + _ = zcl1 l + _ + zcl1 l'
    rw [zcl1_app l l']; omega
theorem zcl1_le : ∀ (l : List zCode), zcl1 l ≤ l.length
  | [] => Nat.le_refl _
  | q :: l => by
    have := zcl1_le l
    show zcl1 l + (if q.1 ≤ 3 then 1 else 0) ≤ l.length + 1
    split <;> omega
theorem u_terms_9 (hUN : zUN N c) (hUr : zUr m c) {k : Nat} (hk : k < 300) : ∀ (l : List zCode) (n f a : Nat), l.length < n → gi m (c + 16) k = zN (f + l.length) → f + l.length ≤ 600 → zcod m c f l → (∀ q ∈ l, q.1 < 1000) → fX5_countTerms_9 N n (c + 12) (zN k) (zN a) (zN f) m = some (zN (a + zcl1 l), m) := by
  obtain ⟨-, -, -, -, -, -, -, -, -, -, -, u13, u14, u15, u16, u17⟩ := hUN
  obtain ⟨-, -, -, -, -, -, -, -, -, -, -, -, r1, r2, r4, r5, r6⟩ := hUr
  intro l
  induction l with
  | nil =>
    intro n f a hn h16 hf _ _
    obtain ⟨n, rfl⟩ : ∃ j, n = j + 1 := ⟨n - 1, by simp at hn; omega⟩
    simp only [List.length_nil] at h16 hf
    unfold fX5_countTerms_9
    simp (disch := omega) only [zv, zgr r5, zald, h16, zN_le]
    rw [if_pos (by omega)]
    rfl
  | cons q l ih =>
    intro n f a hn h16 hf hcd hq
    simp only [List.length_cons] at hn h16 hf
    obtain ⟨n, rfl⟩ : ∃ j, n = j + 1 := ⟨n - 1, by omega⟩
    obtain ⟨d1, d2, d3⟩ := hcd
    have hq1 := hq q List.mem_cons_self
    have hih := fun a => ih n (f + 1) a (by omega) (by rw [h16]; congr 1; omega) (by omega) d3 (fun e he => hq e (List.mem_cons_of_mem _ he))
    have hle : ¬ f + (l.length + 1) ≤ f := by omega
    unfold fX5_countTerms_9 fX5_countTerms_32
    simp (disch := omega) only [zv, zgr r5, zald, h16, zN_le, hle, if_false, zgr r1, d1, zN_lit, zN_lt, zN_add]
    show _ = some (zN (a + (zcl1 l + if q.1 ≤ 3 then 1 else 0)), m)
    by_cases e : q.1 ≤ 3
    · rw [if_neg (by omega), if_pos e, hih]; congr 3; omega
    · rw [if_pos (by omega), if_neg e, hih]; congr 3
theorem u_terms {k : Nat} {e : zDeed} (hUN : zUN N c) (hUr : zUr m c) (hd : zdok P e) (hdat : zdat m c k e) : fX5_countTerms N (c + 12) (zN k) m = some (zN (zcl1 e.1), m) := by
  obtain ⟨hk, f, e1, e2, e3, e4, e5⟩ := hdat
  have hX := zXF
  have h9 := u_terms_9 (N := N) hUN hUr hk e.1 XF f 0 (by omega) e2 e3 e4 (zcw_bd _ _ hd.1.1)
  obtain ⟨-, -, -, -, -, -, -, -, -, -, -, u13, u14, u15, u16, u17⟩ := hUN
  obtain ⟨-, -, -, -, -, -, -, -, -, -, -, -, r1, r2, r4, r5, r6⟩ := hUr
  unfold fX5_countTerms
  generalize XF = nf at h9 ⊢
  simp (disch := omega) only [zgr r4, zald, e1, zN_lit]
  rw [h9, Nat.zero_add]
section UHa
variable {K : Nat → Int32} {R : Nat → Nat → Int32 → XM → Option (Int32 × XM)}
def yQn (N : Nat → Nat) (K : Nat → Int32) (P : zP) (R : Nat → Nat → Int32 → XM → Option (Int32 × XM)) (n : Nat) : Prop := ∀ m f l, ySm K (yTm K P n) f l → yW N K m P → R 0 85 (zN f) m = some (zN (zcl1 l), m)
theorem y_terms1 {n t : Nat} {l : List zCode} (hR : yQn N K P R n) (ht : yTm K P (n + 1) t l) (hW : yW N K m P) (g a : Nat) : fX9_termsOf_4 N R (g + 1) 85 (zN a) (zN t) m = xca (fX9_ofTerm N 88 (zN t) (zN 4) m) fun v4 m3 => fX9_termsOf_4 N R g 85 (zN (a + zcl1 l)) v4 m3 := by
  obtain ⟨t400, ht⟩ := ht
  obtain ⟨⟨⟨-, -, n88, -⟩, ⟨-, -, g9, -⟩, -⟩, hK⟩ := id hW
  have hK' : ∀ j, gi m 88 j = K j := fun j => congrFun hK j
  have e1 := yo_term (m := m) (a := 88) (x := t) (w := 1) n88 t400 (by omega)
  have e2 := yo_term (m := m) (a := 88) (x := t) (w := 2) n88 t400 (by omega)
  rw [hK'] at e1 e2
  have hne1 : (zN t = zM) = False := zN_m (by omega)
  rw [fX9_termsOf_4]
  unfold fX9_termsOf_40
  simp only [zv, zN_lit, zneg, hne1, if_false, zgr g9, e1, zca]
  rcases ht with ⟨q, rfl, hq⟩ | ⟨e4, f, e5, hfm⟩
  · have q3 := yleaf_le hq
    have hq1 : ¬ K (1410 + 6 * t + 1) = zN 4 := by
      rcases hq with h | h | h | h
      · rw [h.1, zN_eq (by omega) (by omega)]; omega
      · rw [h.1, zN_eq (by omega) (by omega)]; omega
      · rw [h.1, zN_eq (by omega) (by omega)]; omega
      · rw [h.1, zN_eq (by omega) (by omega)]; omega
    have e : zcl1 [q] = 1 := by show 0 + (if q.1 ≤ 3 then 1 else 0) = 1; rw [if_pos q3]
    rw [if_neg hq1, e, zN_add]
  · rw [if_pos e4, e2, zca, e5, hR m f l hfm hW, zca, zN_add]
    exact zgr g9
theorem y_termsC {n : Nat} (hR : yQn N K P R n) : ∀ (ts : List Nat) (p : Nat) (l : List zCode) (g a : Nat), ts.length < g → p < 400 → yCh K (yTm K P (n + 1)) ts p l → yW N K m P → (xca (fX9_ofTerm N 88 (zN p) (zN 4) m) fun v4 m3 => fX9_termsOf_4 N R g 85 (zN a) v4 m3) = some (zN (a + zcl1 l), m) := by
  intro ts
  induction ts with
  | nil =>
    intro p l g a hg hp hc hW
    obtain ⟨g, rfl⟩ : ∃ k, g = k + 1 := ⟨g - 1, by simp at hg; omega⟩
    obtain ⟨c1, rfl⟩ := hc
    obtain ⟨⟨⟨-, -, n88, -⟩, -⟩, hK⟩ := id hW
    rw [yo_term n88 hp (by omega), hK, c1, zca]
    unfold fX9_termsOf_4
    simp only [zv, zN_lit, zneg, if_true]
    rfl
  | cons t ts ih =>
    intro p l g a hg hp hc hW
    simp only [List.length_cons] at hg
    obtain ⟨g, rfl⟩ : ∃ k, g = k + 1 := ⟨g - 1, by omega⟩
    obtain ⟨c1, c2, lt, o, l', c3, c4, c5, c6, rfl, c7⟩ := hc
    obtain ⟨⟨⟨-, -, n88, -⟩, -⟩, hK⟩ := id hW
    rw [yo_term n88 hp (by omega), hK, c2, zca, y_terms1 hR c3 hW g a, ih t l' g _ (by omega) (yTm_400 c3) c7 hW, zcl1_app]
    have e : zcl1 ((o, 0) :: l') = zcl1 l' := by show zcl1 l' + (if o ≤ 3 then 1 else 0) = _; rw [if_neg (by omega)]; omega
    rw [e, Nat.add_assoc]
theorem y_termsS {n f : Nat} {l : List zCode} (hR : yQn N K P R n) (hf : ySm K (yTm K P (n + 1)) f l) (hW : yW N K m P) : fX9_termsOf N R 85 (zN f) m = some (zN (zcl1 l), m) := by
  obtain ⟨l0, ts, lr, h1, h2, h3, rfl⟩ := hf
  unfold fX9_termsOf
  have hX := zXF
  revert hX
  generalize XF = nf
  intro hX
  obtain ⟨g, rfl⟩ : ∃ k, nf = k + 1 := ⟨nf - 1, by omega⟩
  simp only [zN_lit]
  rw [y_terms1 hR h1 hW g 0, y_termsC hR ts f lr g _ (by omega) h1.1 h3 hW, zcl1_app, Nat.zero_add]
end UHa
theorem y_termsG {K : Nat → Int32} : ∀ n e, n ≤ e → yQn N K P (gX9_termsOf N e) n := by
  intro n
  induction n with
  | zero => intro e _ m f l hf; obtain ⟨l0, ts, lr, h1, -⟩ := hf; exact h1.elim
  | succ n ih =>
    intro e he m f l hf hW
    obtain ⟨e, rfl⟩ : ∃ j, e = j + 1 := ⟨e - 1, by omega⟩
    rw [gX9_termsOf, zv, if_pos rfl]
    exact y_termsS (ih e (by omega)) hf hW
end UH
