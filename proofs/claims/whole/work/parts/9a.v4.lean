/-! ===== v: the class looks through ===== -/
section VD
variable {N : Nat → Nat} {P : zP} {c : Nat}
def vcf (m m' : XM) : Prop := (∀ a k, a ≠ 82 → a ≠ 83 → ¬ (a = 79 ∧ (k = 3 ∨ k = 4)) → gi m' a k = gi m a k) ∧ (∀ a k, a ≠ 83 → gl m' a k = gl m a k) ∧ ∀ a k, gr m' a k = gr m a k
theorem vcf_rf (m : XM) : vcf m m := ⟨fun _ _ _ _ _ => rfl, fun _ _ _ => rfl, fun _ _ => rfl⟩
theorem vcf_tr {m m1 m2 : XM} (h : vcf m m1) (g : vcf m1 m2) : vcf m m2 := ⟨fun a k q1 q2 q3 => (g.1 a k q1 q2 q3).trans (h.1 a k q1 q2 q3), fun a k q => (g.2.1 a k q).trans (h.2.1 a k q), fun a k => (g.2.2 a k).trans (h.2.2 a k)⟩
theorem vcf_si {m m1 : XM} {a k : Nat} {v : Int32} (h : vcf m m1) (ha : a = 82 ∨ a = 83 ∨ (a = 79 ∧ (k = 3 ∨ k = 4))) : vcf m (si m1 a k v) := ⟨fun b j q1 q2 q3 => by rw [gi_ne (by omega)]; exact h.1 b j q1 q2 q3, fun b j q => h.2.1 b j q, fun b j => h.2.2 b j⟩
/-- the web's rows and the units -/
def vWr (m : XM) : Prop := gr m 79 0 = some 80 ∧ gr m 79 1 = some 81 ∧ gr m 79 5 = some 82 ∧ gr m 79 6 = some 83 ∧ gr m 79 7 = some 84
def vWN (N : Nat → Nat) : Prop := N 80 = 7 ∧ N 81 = 7 ∧ N 82 = 84 ∧ N 83 = 84 ∧ N 84 = 128
def vU (N : Nat → Nat) (m : XM) (c : Nat) (P : zP) : Prop := zUN N c ∧ vWN N ∧ c + 18 ≤ 79 ∧ zwf P ∧ zUr m c ∧ zCP m c P ∧ vWr m
theorem vU_f {m m' : XM} (h : vU N m c P) (g : vcf m m') : vU N m' c P := by
  obtain ⟨h1, h2, h3, h4, h5, h6, h7⟩ := h
  refine ⟨h1, h2, h3, h4, zUr_fr (fun a k _ _ => g.2.2 a k) h5, zCP_fr (fun a k _ _ => g.1 a k (by omega) (by omega) (by omega)) h6, ?_⟩
  unfold vWr at h7 ⊢
  simp only [g.2.2]
  exact h7
def vC (m : XM) (P : zP) (S : Nat → Bool) (Q : List Nat) (B : Nat) : Prop := gi m 79 3 = zN B ∧ gi m 79 4 = zN Q.length ∧ (∀ i f, Q[i]? = some f → gi m 82 i = zN f) ∧ (∀ f, f < 84 → gi m 83 f = if S f then zN 1 else zN 0) ∧ (∀ f, S f = true ↔ f ∈ Q) ∧ zct S 84 = Q.length ∧ (∀ f ∈ Q, zok P f ∧ zknd P f = 4) ∧ B < 128
/-- what is added -/
def vA (S : Nat → Bool) (Q : List Nat) (B : Nat) (S' : Nat → Bool) (Q' : List Nat) (B' : Nat) (D C : Nat → Prop) : Prop := (∃ t, Q' = Q ++ t) ∧ (∀ f, S' f = true ↔ (S f = true ∨ C f)) ∧ ∀ v, v < 7 → (zbi B' v ↔ (zbi B v ∨ D v))
theorem vA_rf {S : Nat → Bool} {Q : List Nat} {B : Nat} : vA S Q B S Q B (fun _ => False) (fun _ => False) := ⟨⟨[], (List.append_nil _).symm⟩, fun f => ⟨Or.inl, fun h => h.elim id (fun h => h.elim)⟩, fun v _ => ⟨Or.inl, fun h => h.elim id (fun h => h.elim)⟩⟩
theorem vA_tr {S S1 S2 : Nat → Bool} {Q Q1 Q2 : List Nat} {B B1 B2 : Nat} {D D1 D2 C C1 C2 : Nat → Prop} (h1 : vA S Q B S1 Q1 B1 D1 C1) (h2 : vA S1 Q1 B1 S2 Q2 B2 D2 C2) (hD : ∀ v, D v ↔ (D1 v ∨ D2 v)) (hC : ∀ f, C f ↔ (C1 f ∨ C2 f)) : vA S Q B S2 Q2 B2 D C := by
  obtain ⟨⟨t1, a1⟩, a2, a3⟩ := h1
  obtain ⟨⟨t2, b1⟩, b2, b3⟩ := h2
  refine ⟨⟨t1 ++ t2, by rw [b1, a1, List.append_assoc]⟩, fun f => ?_, fun v hv => ?_⟩
  · rw [b2, a2, hC, or_assoc]
  · rw [b3 v hv, a3 v hv, hD, or_assoc]
def vQc (P : zP) (m : XM) (S : Nat → Bool) (Q : List Nat) (B : Nat) (D C : Nat → Prop) (o : Option XM) : Prop := ∃ m' S' Q' B', o = some m' ∧ vcf m m' ∧ vC m' P S' Q' B' ∧ vA S Q B S' Q' B' D C
theorem vc_note {m : XM} {S : Nat → Bool} {Q : List Nat} {B f : Nat} (hU : vU N m c P) (h : vC m P S Q B) (hf : zok P f) (hfk : zknd P f = 4) : vQc P m S Q B (fun _ => False) (fun g => g = f) (fX7_noteFunction N 79 (zN f) m) := by
  have h84 := (zok_84 hU.2.2.2.1 hf).1
  obtain ⟨-, ⟨-, -, n82, n83, -⟩, -, -, -, -, ⟨-, -, g5, g6, -⟩⟩ := hU
  have h0 := h
  obtain ⟨h3, h4, h82, h83, hSQ, hct, hok, hB⟩ := h
  have hs := h83 f h84
  unfold fX7_noteFunction
  simp (disch := omega) only [zgr g6, zald, hs, zN_lit]
  cases hsf : S f with
  | true =>
    simp only [if_true, zN10, if_false]
    exact ⟨m, S, Q, B, rfl, vcf_rf m, h0, ⟨[], (List.append_nil _).symm⟩, fun g => ⟨Or.inl, fun q => q.elim id (fun q => by rw [q]; exact hsf)⟩, fun v _ => ⟨Or.inl, fun q => q.elim id (fun q => q.elim)⟩⟩
  | false =>
    have hc1 := zct_set hsf 84 h84
    have hle := zct_le (zset S f true) 84
    have hnQ : f ∉ Q := fun q => by rw [(hSQ f).2 q] at hsf; cases hsf
    simp (disch := omega) only [Bool.false_eq_true, if_false, if_true, zast, zgr_si, zgr g5, gi_ne, h4, zv, zN_add]
    refine ⟨_, zset S f true, Q ++ [f], B, rfl, vcf_si (vcf_si (vcf_si (vcf_rf m) (by omega)) (by omega)) (by omega), ⟨?_, ?_, fun i g hg => ?_, fun g hg => ?_, fun g => ?_, ?_, fun g hg => ?_, hB⟩, ⟨[f], rfl⟩, fun g => ?_, fun v _ => ⟨Or.inl, fun q => q.elim id (fun q => q.elim)⟩⟩
    · rw [gi_ne (by omega), gi_ne (by omega), gi_ne (by omega)]; exact h3
    · rw [gi_si, List.length_append]; rfl
    · rw [gi_ne (by omega)]
      by_cases e : i = Q.length
      · subst e
        rw [gi_si]
        simp at hg
        rw [hg]
      · rw [gi_ne (by omega), gi_ne (by omega)]
        refine h82 i g ?_
        by_cases e2 : i < Q.length
        · rwa [List.getElem?_append_left e2] at hg
        · rw [List.getElem?_append_right (by omega)] at hg
          rw [List.getElem?_eq_none (by simp; omega)] at hg
          cases hg
    · rw [gi_ne (by omega), gi_ne (by omega)]
      by_cases e : g = f
      · rw [e, gi_si, zset_eq, if_pos rfl]
      · rw [gi_ne (by omega), zset_ne _ _ e]; exact h83 g hg
    · rw [List.mem_append, List.mem_singleton]
      by_cases e : g = f
      · rw [e, zset_eq]; exact ⟨fun _ => Or.inr rfl, fun _ => rfl⟩
      · rw [zset_ne _ _ e, hSQ]
        exact ⟨Or.inl, fun q => q.elim id (fun q => absurd q e)⟩
    · rw [hc1, hct, List.length_append]; rfl
    · rcases List.mem_append.mp hg with q | q
      · exact hok g q
      · rw [List.mem_singleton.mp q]; exact ⟨hf, hfk⟩
    · by_cases e : g = f
      · rw [e, zset_eq]; exact ⟨fun _ => Or.inr rfl, fun _ => rfl⟩
      · rw [zset_ne _ _ e]
        exact ⟨Or.inl, fun q => q.elim id (fun q => absurd q e)⟩
theorem vC_bits {m : XM} {S : Nat → Bool} {Q : List Nat} {B u : Nat} (h : vC m P S Q B) (hu : u < 7) : vC (si m 79 3 (zN (B ||| 2 ^ u))) P S Q (B ||| 2 ^ u) ∧ vA S Q B S Q (B ||| 2 ^ u) (fun v => u = v) (fun _ => False) := by
  obtain ⟨h3, h4, h82, h83, hSQ, hct, hok, hB⟩ := h
  have hp128 : 2 ^ u < 128 := (vB_1 (P := P) (S := S) hu).2.2.2.1
  obtain ⟨o1, o2⟩ := zbi_or B hB (2 ^ u) hp128
  refine ⟨⟨gi_si _ _ _ _, by rw [gi_ne (by omega)]; exact h4, fun i f hf => by rw [gi_ne (by omega)]; exact h82 i f hf, fun f hf => by rw [gi_ne (by omega)]; exact h83 f hf, hSQ, hct, hok, o1⟩, ⟨[], (List.append_nil _).symm⟩, fun f => ⟨Or.inl, fun q => q.elim id (fun q => q.elim)⟩, fun v hv => ?_⟩
  unfold zbi
  rw [o2 v hv]
  have := zbi_pow (u := u) (v := v)
  unfold zbi at this
  rw [this]
theorem vc_deed_37 {k : Nat} (hk : k < 300) : ∀ (l : List zCode) (n f : Nat) (m : XM) (S : Nat → Bool) (Q : List Nat) (B : Nat), l.length < n → gi m (c + 16) k = zN (f + l.length) → f + l.length ≤ 600 → zcod m c f l → (∀ q ∈ l, q.1 < 1000) → ycok P l → vU N m c P → vC m P S Q B →
    vQc P m S Q B (zDl l) (zCl l) (fX7_addDeed_37 N n 79 (c + 12) (zN k) (zN f) m) := by
  intro l
  induction l with
  | nil =>
    intro n f m S Q B hn h16 hf _ _ _ hU hC
    obtain ⟨n, rfl⟩ : ∃ j, n = j + 1 := ⟨n - 1, by simp at hn; omega⟩
    obtain ⟨⟨-, -, -, -, -, -, -, -, -, -, -, u13, u14, u15, u16, u17⟩, -, -, -, ⟨-, -, -, -, -, -, -, -, -, -, -, -, r1, r2, r4, r5, r6⟩, -, -⟩ := id hU
    simp only [List.length_nil] at h16 hf
    refine ⟨m, S, Q, B, ?_, vcf_rf m, hC, ?_⟩
    · unfold fX7_addDeed_37
      simp (disch := omega) only [zv, zgr r5, zald, h16, zN_le]
      rw [if_pos (by omega)]
    · exact ⟨⟨[], (List.append_nil _).symm⟩, fun g => ⟨Or.inl, fun h => h.elim id (fun h => ((zCl_nil g).1 h).elim)⟩, fun v _ => ⟨Or.inl, fun h => h.elim id (fun h => ((zDl_nil v).1 h).elim)⟩⟩
  | cons q l ih =>
    intro n f m S Q B hn h16 hf hcd hq1 hck hU hC
    simp only [List.length_cons] at hn h16 hf
    obtain ⟨n, rfl⟩ : ∃ j, n = j + 1 := ⟨n - 1, by omega⟩
    have hU0 := hU
    obtain ⟨⟨-, -, -, -, -, -, -, -, -, -, -, u13, u14, u15, u16, u17⟩, -, h79, hwf, ⟨-, -, -, -, -, -, -, -, -, -, -, -, r1, r2, r4, r5, r6⟩, -, -⟩ := id hU
    obtain ⟨d1, d2, d3⟩ := hcd
    have hq := hq1 q List.mem_cons_self
    have hck' : ycok P l := fun e he => hck e (List.mem_cons_of_mem _ he)
    have hgo : ∀ m1 S1 Q1 B1 D1 C1, vcf m m1 → vC m1 P S1 Q1 B1 → vA S Q B S1 Q1 B1 D1 C1 → (∀ v, zDl [q] v ↔ D1 v) → (∀ v, zCl [q] v ↔ C1 v) → vQc P m S Q B (zDl (q :: l)) (zCl (q :: l)) (fX7_addDeed_37 N n 79 (c + 12) (zN k) (zN (f + 1)) m1) := by
      intro m1 S1 Q1 B1 D1 C1 f1 c1 a1 hD hCc
      have e1 : ∀ a j, c ≤ a → a < c + 18 → gi m1 a j = gi m a j := fun a j _ _ => f1.1 a j (by omega) (by omega) (by omega)
      obtain ⟨m2, S2, Q2, B2, b1, b2, b3, b4⟩ := ih n (f + 1) m1 S1 Q1 B1 (by omega) (by rw [e1 _ _ (by omega) (by omega), h16]; congr 1; omega) (by omega) (zcod_fr (fun j => e1 _ _ (by omega) (by omega)) (fun j => e1 _ _ (by omega) (by omega)) d3) (fun e he => hq1 e (List.mem_cons_of_mem _ he)) hck' (vU_f hU0 f1) c1
      refine ⟨m2, S2, Q2, B2, b1, vcf_tr f1 b2, b3, vA_tr a1 b4 (fun v => ?_) (fun v => ?_)⟩
      · rw [← hD, ← zDl_app]; rfl
      · rw [← hCc, ← zCl_app]; rfl
    unfold fX7_addDeed_37 fX7_addDeed_67 fX7_addDeed_87 fX7_addDeed_107
    have hlt : ¬ f + (l.length + 1) ≤ f := by omega
    have h3 := hC.1
    have hB := hC.2.2.2.2.2.2.2
    by_cases e1 : q.1 = 1
    · have hx := ((hck q List.mem_cons_self).1 e1).1
      obtain ⟨hx84, hx7⟩ := zok_84 hwf hx
      have hp := wb_one (q.2 / 12) (by omega)
      have hp128 : 2 ^ (q.2 / 12) < 128 := (vB_1 (P := P) (S := S) hx7).2.2.2.1
      have h12 : ¬ (1 : Nat) = 2 := by omega
      obtain ⟨c1, a1⟩ := vC_bits hC hx7
      simp (disch := omega) only [zv, zgr r5, zald, h16, zN_le, hlt, if_false, zgr r1, d1, e1, zN_lit, if_true, h3, zgr r2, d2, zdv, zN_div, hp, vor, zgr_si, gi_ne, zN_eq, h12, zN_add]
      exact hgo _ S Q _ _ _ (vcf_si (vcf_rf m) (by omega)) c1 a1 (fun v => by rw [zDl_one]; exact ⟨fun h => h.2, fun h => ⟨Or.inl e1, h⟩⟩) (fun v => by rw [zCl_one]; exact ⟨fun h => (by omega), fun h => h.elim⟩)
    · by_cases e2 : q.1 = 2
      · obtain ⟨hx, hxk⟩ := (hck q List.mem_cons_self).2 e2
        obtain ⟨hx84, hx7⟩ := zok_84 hwf hx
        have hp := wb_one (q.2 / 12) (by omega)
        have hp128 : 2 ^ (q.2 / 12) < 128 := (vB_1 (P := P) (S := S) hx7).2.2.2.1
        have h21 : ¬ (2 : Nat) = 1 := by omega
        obtain ⟨c1, a1⟩ := vC_bits hC hx7
        have f1 : vcf m (si m 79 3 (zN (B ||| 2 ^ (q.2 / 12)))) := vcf_si (vcf_rf m) (by omega)
        obtain ⟨m2, S2, Q2, B2, b1, b2, b3, b4⟩ := vc_note (vU_f hU0 f1) c1 hx hxk
        simp (disch := omega) only [zv, zgr r5, zald, h16, zN_le, hlt, if_false, zgr r1, d1, e2, zN_lit, if_true, h3, zgr r2, d2, zdv, zN_div, hp, vor, zgr_si, gi_ne, zN_eq, h21, b1, zcv, zN_add]
        exact hgo _ S2 Q2 B2 _ _ (vcf_tr f1 b2) b3 (vA_tr a1 b4 (D := fun v => q.2 / 12 = v) (C := fun g => g = q.2) (fun v => ⟨Or.inl, fun h => h.elim id (fun h => h.elim)⟩) (fun v => ⟨Or.inr, fun h => h.elim (fun h => h.elim) id⟩)) (fun v => by rw [zDl_one]; exact ⟨fun h => h.2, fun h => ⟨Or.inr e2, h⟩⟩) (fun v => by rw [zCl_one]; exact ⟨fun h => h.2.symm, fun h => ⟨e2, h.symm⟩⟩)
      · simp (disch := omega) only [zv, zgr r5, zald, h16, zN_le, hlt, if_false, zgr r1, d1, zN_lit, zN_eq, e1, e2, zN_add]
        exact hgo m S Q B _ _ (vcf_rf m) hC vA_rf (fun v => by rw [zDl_one]; exact ⟨fun h => by omega, fun h => h.elim⟩) (fun v => by rw [zCl_one]; exact ⟨fun h => by omega, fun h => h.elim⟩)
theorem zcw_bd : ∀ (l : List zCode) (d : Nat), zcw l d → ∀ q ∈ l, q.1 < 1000
  | [], _, _, q, h => by cases h
  | c :: cs, d, h, q, hq => by
    unfold zcw at h
    by_cases e : 4 ≤ c.1
    · rw [if_pos e] at h
      rcases List.mem_cons.mp hq with g | g
      · rw [g]; omega
      · exact zcw_bd cs (d - 1) h.2.2 q g
    · rw [if_neg e] at h
      rcases List.mem_cons.mp hq with g | g
      · rw [g]; omega
      · exact zcw_bd cs (d + 1) h.2.2 q g
theorem vc_deed {k : Nat} {d : zDeed} {m : XM} {S : Nat → Bool} {Q : List Nat} {B : Nat} (hd : zdok P d) (hdat : zdat m c k d) (hU : vU N m c P) (hC : vC m P S Q B) : vQc P m S Q B (zDd d) (zCl d.1) (fX7_addDeed N 79 (c + 12) (zN k) m) := by
  have hU0 := hU
  obtain ⟨⟨-, -, -, -, -, -, -, -, -, -, -, u13, u14, u15, u16, u17⟩, -, h79, hwf, ⟨-, -, -, -, -, -, -, -, -, -, -, -, r1, r2, r4, r5, r6⟩, -, -⟩ := id hU
  obtain ⟨hk, f, e1, e2, e3, e4, e5⟩ := hdat
  have hbd := zcw_bd d.1 0 hd.1.1
  have hX := zXF
  unfold fX7_addDeed fX7_addDeed_30
  revert hX
  generalize XF = nf
  intro hX
  cases hd2 : d.2 with
  | none =>
    rw [hd2] at e5
    obtain ⟨m2, S2, Q2, B2, b1, b2, b3, b4⟩ := vc_deed_37 (N := N) hk d.1 nf f m S Q B (by omega) e2 e3 e4 hbd hd.1.2 hU0 hC
    refine ⟨m2, S2, Q2, B2, ?_, b2, b3, b4.1, b4.2.1, fun v hv => ?_⟩
    · simp (disch := omega) only [zgr r6, zald, e5, zopt, zneg, if_true, zgr r4, e1]
      exact b1
    · rw [b4.2.2 v hv]
      unfold zDd
      rw [hd2]
      constructor
      · rintro (h | h); exact Or.inl h; exact Or.inr (Or.inl h)
      · rintro (h | h | ⟨x, h, -⟩); exact Or.inl h; exact Or.inr h; cases h
  | some x =>
    rw [hd2] at e5
    have hx := (hd.2 x hd2).1
    obtain ⟨hx84, hx7⟩ := zok_84 hwf hx
    have hp := wb_one (x / 12) (by omega)
    have hp128 : 2 ^ (x / 12) < 128 := (vB_1 (P := P) (S := S) hx7).2.2.2.1
    have h3 := hC.1
    have hB := hC.2.2.2.2.2.2.2
    obtain ⟨c1, a1⟩ := vC_bits hC hx7
    have f1 : vcf m (si m 79 3 (zN (B ||| 2 ^ (x / 12)))) := vcf_si (vcf_rf m) (by omega)
    have g1 : ∀ a j, c ≤ a → a < c + 18 → gi (si m 79 3 (zN (B ||| 2 ^ (x / 12)))) a j = gi m a j := fun a j _ _ => gi_ne (by omega)
    obtain ⟨m2, S2, Q2, B2, b1, b2, b3, b4⟩ := vc_deed_37 (N := N) hk d.1 nf f _ S Q (B ||| 2 ^ (x / 12)) (by omega) (by rw [g1 _ _ (by omega) (by omega)]; exact e2) e3 (zcod_fr (fun j => g1 _ _ (by omega) (by omega)) (fun j => g1 _ _ (by omega) (by omega)) e4) hbd hd.1.2 (vU_f hU0 f1) c1
    refine ⟨m2, S2, Q2, B2, ?_, vcf_tr f1 b2, b3, vA_tr a1 b4 (fun v => ?_) (fun v => ?_)⟩
    · simp (disch := omega) only [zgr r6, zald, e5, zopt, zneg, zN_m, if_false, zv, h3, zN_lit, zdv, zN_div, hp, vor, zgr_si, zgr r4, gi_ne, e1]
      exact b1
    · unfold zDd
      rw [hd2]
      constructor
      · rintro (h | ⟨y, h, h'⟩); exact Or.inr h; injection h with h; rw [← h] at h'; exact Or.inl h'
      · rintro (h | h); exact Or.inr ⟨x, rfl, h⟩; exact Or.inl h
    · constructor
      · exact Or.inr
      · rintro (h | h); exact h.elim; exact h
end VD
