/-! ===== v: who may be reached ===== -/
def zRc (P : zP) (u v : Nat) : Prop := ∀ S : Nat → Prop, (∀ w, zTo P u w → S w) → (∀ w x, S w → zTo P w x → S x) → S v
noncomputable def zRm (P : zP) (u : Nat) : Nat := zmk7 (zRc P u)
theorem zTo_lt {P : zP} (hw : zwf P) {u v : Nat} (hu : u < zn P) (h : zTo P u v) : v < zn P := by
  have hdd : ∀ d : zDeed, zdok P d → zDd d v → v < zn P := fun d hd h => by
    rcases h with ⟨q, hq, h1, h2⟩ | ⟨x, hx, h2⟩
    · rcases h1 with h1 | h1
      · rw [← h2]; exact ((hd.1.2 q hq).1 h1).1.1
      · rw [← h2]; exact ((hd.1.2 q hq).2 h1).1.1
    · rw [← h2]; exact (hd.2 x hx).1.1
  rcases h with h | ⟨x, d, h, h'⟩ | ⟨g, h, d, hd, h'⟩
  · exact (hw.2.1 u hu).2.2.1 v h
  · exact hdd d ((hw.2.2.1 x h.1).2.1 d h.2.2.2.2) h'
  · have hg : zok P g := h (fun g => zok P g) (fun f ⟨x, d, h, q, hq, h1, h2⟩ => by rw [← h2]; exact (((hw.2.2.1 x h.1).2.1 d h.2.2.2.2).1.2 q hq).2 h1 |>.1) (fun f k hf ⟨d, hd, q, hq, h1, h2⟩ => by rw [← h2]; exact (((hw.2.2.1 f hf).2.2.1 d hd).1.2 q hq).2 h1 |>.1)
    exact hdd d ((hw.2.2.1 g hg).2.2.1 d hd) h'
theorem zRc_lt {P : zP} (hw : zwf P) {u v : Nat} (hu : u < zn P) (h : zRc P u v) : v < zn P := h (fun v => v < zn P) (fun _ h => zTo_lt hw hu h) (fun _ _ hw' h => zTo_lt hw hw' h)
theorem zRc_in {P : zP} {u v : Nat} (h : zTo P u v) : zRc P u v := fun _ h1 _ => h1 v h
theorem zRc_st {P : zP} {u v w : Nat} (h : zRc P u v) (h' : zTo P v w) : zRc P u w := fun S h1 h2 => h2 v w (h S h1 h2) h'
theorem zRc_tr {P : zP} {u v w : Nat} (h : zRc P u v) (h' : zRc P v w) : zRc P u w := h' (zRc P u) (fun _ hx => zRc_st h hx) (fun _ _ hx hy => zRc_st hx hy)
theorem zB_bit {P : zP} {u v : Nat} (hv : v < 7) : zbi (zB P u) v ↔ zTo P u v := by
  unfold zbi zB
  rw [zmk7_bit _ hv]
  constructor
  · intro h
    apply Classical.byContradiction
    intro hn
    rw [zbt_0 hn] at h; omega
  · exact fun h => zbt_1 h
theorem zRm_bit {P : zP} {u v : Nat} (hv : v < 7) : zbi (zRm P u) v ↔ zRc P u v := by
  unfold zbi zRm
  rw [zmk7_bit _ hv]
  constructor
  · intro h
    apply Classical.byContradiction
    intro hn
    rw [zbt_0 hn] at h; omega
  · exact fun h => zbt_1 h
/-- over those below k -/
def zFw (P : zP) : Nat → Nat → Nat → Prop
  | 0, u, v => zTo P u v
  | k + 1, u, v => zFw P k u v ∨ (zFw P k u k ∧ zFw P k k v)
theorem zFw_c {P : zP} : ∀ (k u v : Nat), zFw P k u v → zRc P u v
  | 0, _, _, h => zRc_in h
  | k + 1, u, v, h => by
    rcases h with h | ⟨h1, h2⟩
    · exact zFw_c k u v h
    · exact zRc_tr (zFw_c k u k h1) (zFw_c k k v h2)
theorem zFw_in {P : zP} {u v : Nat} (h : zTo P u v) : ∀ k, zFw P k u v
  | 0 => h
  | k + 1 => Or.inl (zFw_in h k)
theorem zFw_tr {P : zP} : ∀ (k u w v : Nat), w < k → zFw P k u w → zFw P k w v → zFw P k u v
  | 0, _, _, _, h, _, _ => by omega
  | k + 1, u, w, v, h, h1, h2 => by
    by_cases e : w = k
    · subst e
      have g1 : zFw P w u w := h1.elim id (fun h => h.1)
      have g2 : zFw P w w v := h2.elim id (fun h => h.2)
      exact Or.inr ⟨g1, g2⟩
    · have hk : w < k := by omega
      rcases h1 with a | ⟨a1, a2⟩ <;> rcases h2 with b | ⟨b1, b2⟩
      · exact Or.inl (zFw_tr k u w v hk a b)
      · exact Or.inr ⟨zFw_tr k u w k hk a b1, b2⟩
      · exact Or.inr ⟨a1, zFw_tr k k w v hk a2 b⟩
      · exact Or.inr ⟨a1, b2⟩
theorem zFw_all {P : zP} (hw : zwf P) {u v : Nat} (hu : u < zn P) : zFw P (zn P) u v ↔ zRc P u v := by
  constructor
  · exact zFw_c _ _ _
  · intro h
    have := h (fun v => zFw P (zn P) u v ∧ v < zn P) (fun w hw' => ⟨zFw_in hw' _, zTo_lt hw hu hw'⟩) (fun w x hw' hx => ⟨zFw_tr _ _ w _ hw'.2 hw'.1 (zFw_in hx _), zTo_lt hw hw'.2 hx⟩)
    exact this.1
section VF
variable {N : Nat → Nat} {P : zP} {c : Nat}
/-- the class's web -/
def vsf (m m' : XM) : Prop := (∀ a k, a < 79 ∨ 85 ≤ a → gi m' a k = gi m a k) ∧ (∀ a k, a ≠ 83 → gl m' a k = gl m a k) ∧ ∀ a k, gr m' a k = gr m a k
theorem vsf_rf (m : XM) : vsf m m := ⟨fun _ _ _ => rfl, fun _ _ _ => rfl, fun _ _ => rfl⟩
theorem vsf_tr {m m1 m2 : XM} (h : vsf m m1) (g : vsf m1 m2) : vsf m m2 := ⟨fun a k q => (g.1 a k q).trans (h.1 a k q), fun a k q => (g.2.1 a k q).trans (h.2.1 a k q), fun a k => (g.2.2 a k).trans (h.2.2 a k)⟩
theorem vsf_c {m m' : XM} (h : vcf m m') : vsf m m' := ⟨fun a k q => h.1 a k (by omega) (by omega) (by omega), h.2⟩
theorem vsf_si {m m1 : XM} {a k : Nat} {v : Int32} (h : vsf m m1) (ha : 79 ≤ a ∧ a < 85) : vsf m (si m1 a k v) := ⟨fun b j q => by rw [gi_ne (by omega)]; exact h.1 b j q, fun b j q => h.2.1 b j q, fun b j => h.2.2 b j⟩
theorem vU_s {m m' : XM} (h : vU N m c P) (g : vsf m m') : vU N m' c P := by
  obtain ⟨h1, h2, h3, h4, h5, h6, h7⟩ := h
  refine ⟨h1, h2, h3, h4, zUr_fr (fun a k _ _ => g.2.2 a k) h5, zCP_fr (fun a k _ _ => g.1 a k (by omega)) h6, ?_⟩
  unfold vWr at h7 ⊢
  simp only [g.2.2]
  exact h7
/-- what the web shows -/
def vSp (m : XM) (P : zP) : Prop := gi m 79 2 = zN (zn P) ∧ (∀ u, u < zn P → gi m 80 u = zN (zB P u)) ∧ ∀ u, u < zn P → gi m 81 u = zN (zRm P u)
theorem zbi_z {B v : Nat} (hB : B < 128) (hv : v < 7) : (zN B >>> (zN v &&& zN 31)) &&& zN 1 = zN (B / 2 ^ v % 2) := wb_bit B hB v hv
theorem vc_spin_60 (hw : zwf P) {r50 : Nat → Int32 → XM → Option XM} {k : Nat} (hk : k < zn P) : ∀ (d n u : Nat) (m : XM) (b : Nat → Nat), d < n → u + d = zn P → vU N m c P → gi m 79 2 = zN (zn P) → (∀ w, w < zn P → gi m 81 w = zN (b w) ∧ b w < 128) → (∀ w, w < zn P → ∀ v, v < 7 → (zbi (b w) v ↔ if w < u then zFw P (k + 1) w v else zFw P k w v)) →
    ∃ (m' : XM) (b' : Nat → Nat), fX7_spin_60 N r50 n 79 (zN k) (zN u) m = r50 79 (zN (k + 1)) m' ∧ vsf m m' ∧ (∀ j, gi m' 79 j = gi m 79 j) ∧ (∀ j, gi m' 80 j = gi m 80 j) ∧ (∀ w, w < zn P → gi m' 81 w = zN (b' w) ∧ b' w < 128) ∧ (∀ w, w < zn P → ∀ v, v < 7 → (zbi (b' w) v ↔ zFw P (k + 1) w v)) := by
  have hz := hw.1
  intro d
  induction d with
  | zero =>
    intro n u m b hn hu hU h2 hb hbi
    obtain ⟨n, rfl⟩ : ∃ j, n = j + 1 := ⟨n - 1, by omega⟩
    refine ⟨m, b, ?_, vsf_rf m, fun _ => rfl, fun _ => rfl, hb, fun w hw' v hv => ?_⟩
    · unfold fX7_spin_60
      simp (disch := omega) only [zv, h2, zN_le, zN_lit, zN_add]
      rw [if_pos (by omega)]
    · rw [hbi w hw' v hv, if_pos (by omega)]
  | succ d ih =>
    intro n u m b hn hu hU h2 hb hbi
    obtain ⟨n, rfl⟩ : ∃ j, n = j + 1 := ⟨n - 1, by omega⟩
    have hU0 := hU
    obtain ⟨-, ⟨-, n81, -⟩, -, -, -, -, ⟨-, g1, -⟩⟩ := id hU
    obtain ⟨e1, e2⟩ := hb u (by omega)
    obtain ⟨e3, e4⟩ := hb k hk
    have hbit := zbi_z e2 (show k < 7 by omega)
    have hrow : ∀ v, v < 7 → (zbi (b k) v ↔ zFw P k k v) := fun v hv => by
      rw [hbi k hk v hv]
      by_cases e : k < u
      · rw [if_pos e]
        exact ⟨fun h => h.elim id (fun h => h.2), fun h => Or.inl h⟩
      · rw [if_neg e]
    unfold fX7_spin_60 fX7_spin_96
    have hnu : ¬ zn P ≤ u := by omega
    simp (disch := omega) only [zv, h2, zN_le, hnu, if_false, zgr g1, zald, e1, zN_lit, hbit, zN_eq, e3, vor, zast, zN_add]
    have huk := hbi u (by omega) k (by omega)
    rw [if_neg (by omega)] at huk
    by_cases e : b u / 2 ^ k % 2 = 0
    · rw [if_pos e]
      have hno : ¬ zFw P k u k := fun h => by
        have := huk.2 h
        unfold zbi at this
        omega
      refine ih n (u + 1) m b (by omega) (by omega) hU0 h2 hb (fun w hw' v hv => ?_)
      rw [hbi w hw' v hv]
      by_cases ew : w = u
      · rw [ew, if_neg (by omega), if_pos (by omega)]
        exact ⟨fun h => Or.inl h, fun h => h.elim id (fun h => absurd h.1 hno)⟩
      · by_cases ew2 : w < u
        · rw [if_pos ew2, if_pos (by omega)]
        · rw [if_neg ew2, if_neg (by omega)]
    · rw [if_neg e]
      have hyes : zFw P k u k := huk.1 (by unfold zbi; omega)
      obtain ⟨o1, o2⟩ := zbi_or (b u) e2 (b k) e4
      have f1 : vsf m (si m 81 u (zN (b u ||| b k))) := vsf_si (vsf_rf m) (by omega)
      obtain ⟨m', b', p1, p2, p3, p4, p5, p6⟩ := ih n (u + 1) (si m 81 u (zN (b u ||| b k))) (fun w => if w = u then b u ||| b k else b w) (by omega) (by omega) (vU_s hU0 f1) (by rw [gi_ne (by omega)]; exact h2) (fun w hw' => by
        by_cases ew : w = u
        · rw [ew, gi_si, if_pos rfl]; exact ⟨rfl, o1⟩
        · rw [gi_ne (by omega), if_neg ew]; exact hb w hw') (fun w hw' v hv => by
        by_cases ew : w = u
        · rw [if_pos ew, ew, if_pos (by omega)]
          unfold zbi
          rw [o2 v hv]
          have q1 := hbi u (by omega) v hv
          rw [if_neg (by omega)] at q1
          have q2 := hrow v hv
          unfold zbi at q1 q2
          rw [q1, q2]
          exact ⟨fun h => h.elim (fun h => Or.inl h) (fun h => Or.inr ⟨hyes, h⟩), fun h => h.elim (fun h => Or.inl h) (fun h => Or.inr h.2)⟩
        · rw [if_neg ew, hbi w hw' v hv]
          by_cases ew2 : w < u
          · rw [if_pos ew2, if_pos (by omega)]
          · rw [if_neg ew2, if_neg (by omega)])
      exact ⟨m', b', p1, vsf_tr f1 p2, fun j => by rw [p3, gi_ne (by omega)], fun j => by rw [p4, gi_ne (by omega)], p5, p6⟩
theorem vc_spin_50 (hw : zwf P) : ∀ (d n k : Nat) (m : XM) (b : Nat → Nat), d < n → k + d = zn P → vU N m c P → gi m 79 2 = zN (zn P) → (∀ w, w < zn P → gi m 80 w = zN (zB P w)) → (∀ w, w < zn P → gi m 81 w = zN (b w) ∧ b w < 128) → (∀ w, w < zn P → ∀ v, v < 7 → (zbi (b w) v ↔ zFw P k w v)) →
    ∃ m', fX7_spin_50 N n 79 (zN k) m = some m' ∧ vsf m m' ∧ vSp m' P := by
  have hz := hw.1
  intro d
  induction d with
  | zero =>
    intro n k m b hn hk hU h2 h80 hb hbi
    obtain ⟨n, rfl⟩ : ∃ j, n = j + 1 := ⟨n - 1, by omega⟩
    refine ⟨m, ?_, vsf_rf m, h2, h80, fun u hu => ?_⟩
    · unfold fX7_spin_50
      generalize XF = nf
      simp (disch := omega) only [zv, h2, zN_le]
      rw [if_pos (by omega)]
    · rw [(hb u hu).1]
      congr 1
      refine zmk7_eq (hb u hu).2 (fun v hv => ?_)
      rw [hbi u hu v hv, show k = zn P by omega, zFw_all hw hu]
  | succ d ih =>
    intro n k m b hn hk hU h2 h80 hb hbi
    obtain ⟨n, rfl⟩ : ∃ j, n = j + 1 := ⟨n - 1, by omega⟩
    unfold fX7_spin_50
    have hX := zXF
    revert hX
    generalize XF = nf
    intro hX
    obtain ⟨m1, b1, p1, p2, p3, p4, p5, p6⟩ := vc_spin_60 (N := N) (c := c) (r50 := fun q0 x2 m0 => fX7_spin_50 N n q0 x2 m0) hw (k := k) (by omega) (zn P) nf 0 m b (by omega) (by omega) hU h2 hb (fun w hw' v hv => by rw [hbi w hw' v hv, if_neg (by omega)])
    obtain ⟨m', q1, q2, q3⟩ := ih n (k + 1) m1 b1 (by omega) (by omega) (vU_s hU p2) (by rw [p3]; exact h2) (fun w hw' => by rw [p4]; exact h80 w hw') p5 p6
    refine ⟨m', ?_, vsf_tr p2 q2, q3⟩
    simp (disch := omega) only [zv, h2, zN_le, zN_lit]
    rw [if_neg (by omega), p1]
    exact q1
theorem vc_spin_10 (hw : zwf P) : ∀ (d n u : Nat) (m : XM), d < n → u + d = zn P → vU N m c P → gi m 79 2 = zN (zn P) → (∀ w, w < u → gi m 80 w = zN (zB P w) ∧ gi m 81 w = zN (zB P w)) →
    ∃ m', fX7_spin_10 N n 79 c (zN u) m = some m' ∧ vsf m m' ∧ vSp m' P := by
  have hz := hw.1
  intro d
  induction d with
  | zero =>
    intro n u m hn hu hU h2 hb
    obtain ⟨n, rfl⟩ : ∃ j, n = j + 1 := ⟨n - 1, by omega⟩
    obtain ⟨m', q1, q2, q3⟩ := vc_spin_50 (N := N) (c := c) hw (zn P) XF 0 m (zB P) (by have := zXF; omega) (by omega) hU h2 (fun w hw' => (hb w (by omega)).1) (fun w hw' => ⟨(hb w (by omega)).2, zmk7_lt _⟩) (fun w hw' v hv => zB_bit hv)
    refine ⟨m', ?_, q2, q3⟩
    rw [← q1]
    unfold fX7_spin_10
    generalize XF = nf
    simp (disch := omega) only [zv, h2, zN_le, zN_lit]
    rw [if_pos (by omega)]
  | succ d ih =>
    intro n u m hn hu hU h2 hb
    obtain ⟨n, rfl⟩ : ∃ j, n = j + 1 := ⟨n - 1, by omega⟩
    obtain ⟨-, ⟨n80, n81, -⟩, -, -, -, -, ⟨g0, g1, -⟩⟩ := id hU
    obtain ⟨m1, a1, a2⟩ := vc_touchedBy (N := N) (c := c) hw (u := u) (by omega) hU
    have f2 : vsf m (si (si m1 80 u (zN (zB P u))) 81 u (zN (zB P u))) := vsf_si (vsf_si (vsf_c a2) (by omega)) (by omega)
    have k1 : ∀ a j, a = 80 ∨ a = 81 → gi m1 a j = gi m a j := fun a j _ => a2.1 a j (by omega) (by omega) (by omega)
    obtain ⟨m', q1, q2, q3⟩ := ih n (u + 1) (si (si m1 80 u (zN (zB P u))) 81 u (zN (zB P u))) (by omega) (by omega) (vU_s hU f2) (by rw [gi_ne (by omega), gi_ne (by omega), a2.1 _ _ (by omega) (by omega) (by omega)]; exact h2) (fun w hw' => by
      by_cases e : w = u
      · rw [e, gi_si, gi_ne (by omega), gi_si]; exact ⟨rfl, rfl⟩
      · rw [gi_ne (by omega), gi_ne (by omega), gi_ne (by omega), gi_ne (by omega), k1 _ _ (by omega), k1 _ _ (by omega)]; exact hb w (by omega))
    refine ⟨m', ?_, vsf_tr f2 q2, q3⟩
    unfold fX7_spin_10
    generalize XF = nf
    have g0' : gr m1 79 0 = some 80 := by rw [a2.2.2]; exact g0
    have g1' : gr m1 79 1 = some 81 := by rw [a2.2.2]; exact g1
    simp (disch := omega) only [zv, h2, zN_le, zgr g0, a1, zca, zast, zgr_si, zgr g1', zgr g0', zald, gi_si, zN_lit, zN_add]
    rw [if_neg (by omega)]
    exact q1
theorem vc_spin (hw : zwf P) {m : XM} (hU : vU N m c P) : ∃ m', fX7_spin N 79 c m = some m' ∧ vsf m m' ∧ vSp m' P := by
  have hd1 := hU.2.2.2.2.2.1.1
  have hz := hw.1
  have f1 : vsf m (si m 79 2 (zN (zn P))) := vsf_si (vsf_rf m) (by omega)
  obtain ⟨m', q1, q2, q3⟩ := vc_spin_10 (N := N) (c := c) hw (zn P) XF 0 (si m 79 2 (zN (zn P))) (by have := zXF; omega) (by omega) (vU_s hU f1) (gi_si _ _ _ _) (fun w h => by omega)
  refine ⟨m', ?_, vsf_tr f1 q2, q3⟩
  unfold fX7_spin
  generalize XF = nf at q1 ⊢
  simp only [zv, hd1, zN_lit]
  exact q1
end VF
