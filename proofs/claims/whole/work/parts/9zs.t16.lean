/-! ===== t: units and members as they are told ===== -/
abbrev pQ : Type := (Nat × (Nat → Nat) × (Nat → Option Nat) × (Nat → Nat)) × ((Nat → Nat) × (Nat → Option Nat) × (Nat → Option Nat) × (Nat → Option Nat)) × ((Nat → Option Nat) × (Nat → Nat → Option Nat)) × List Nat
def qn (Q : pQ) : Nat := Q.1.1
def qlet (Q : pQ) : Nat → Nat := Q.1.2.1
def qabv (Q : pQ) : Nat → Option Nat := Q.1.2.2.1
def qcnt (Q : pQ) : Nat → Nat := Q.1.2.2.2
def qknd (Q : pQ) : Nat → Nat := Q.2.1.1
def qnam (Q : pQ) : Nat → Option Nat := Q.2.1.2.1
def qnum (Q : pQ) : Nat → Option Nat := Q.2.1.2.2.1
def qded (Q : pQ) : Nat → Option Nat := Q.2.1.2.2.2
def qul (Q : pQ) : Nat → Option Nat := Q.2.2.1.1
def qnm (Q : pQ) : Nat → Nat → Option Nat := Q.2.2.1.2
def qstp (Q : pQ) : List Nat := Q.2.2.2
def qok (Q : pQ) (x : Nat) : Prop := x / 12 < qn Q ∧ x % 12 < qcnt Q (x / 12)
def qbs (f : Nat → Nat) : Nat → Nat
  | 0 => 0
  | u + 1 => qbs f u + f u
def qid (Q : pQ) (x : Nat) : Nat := qbs (qcnt Q) (x / 12) + x % 12
/-- the draft shows Q -/
def cQ (m : XM) (d : Nat) (Q : pQ) : Prop :=
  gi m d 0 = zN (qn Q) ∧ gi m d 11 = zN (qstp Q).length
  ∧ (∀ u, u < qn Q → gi m (d + 1) u = zN (qlet Q u) ∧ gi m (d + 2) u = zopt (qabv Q u)) ∧ (∀ u, u < 7 → gi m (d + 3) u = zN (qcnt Q u))
  ∧ (∀ x, qok Q x → gi m (d + 4) x = zN (qknd Q x) ∧ gi m (d + 5) x = zopt (qnam Q x) ∧ gi m (d + 6) x = zopt (qnum Q x) ∧ gi m (d + 7) x = zopt (qded Q x) ∧ gi m (d + 8) x = zN 1 ∧ gi m (d + 9) x = zN x)
  ∧ (∀ u a, u < 7 → a < 26 → gi m (d + 10) (26 * u + a) = zopt (qnm Q u a)) ∧ (∀ L, L < 7 → gi m 21 L = zopt (qul Q L)) ∧ ∀ k j, (qstp Q)[k]? = some j → gi m (d + 11) k = zN j
/-- a member of the other reader -/
def pMem (K : Nat → Int32) (hi na : Nat) (Q : pQ) (DL : List pD) (x p : Nat) : Prop :=
  K p = zN (qknd Q x) ∧ (qknd Q x ≠ 3 → K (p + 1) = zopt (qnam Q x))
  ∧ (qknd Q x = 0 → ∃ v, qnum Q x = some v ∧ K (p + 2) = zN v ∧ qded Q x = none ∧ v ≤ 999)
  ∧ (qknd Q x = 1 → qnum Q x = none ∧ (qded Q x = none → K (p + 2) = zM) ∧ ∀ k, qded Q x = some k → ∃ D f, DL[k]? = some D ∧ D.2 = none ∧ K (p + 2) = zN f ∧ pSm K (pTm K hi 9) f D.1)
  ∧ (qknd Q x = 2 ∨ qknd Q x = 3 → qnum Q x = none ∧ ∃ k D a, qded Q x = some k ∧ DL[k]? = some D ∧ K (p + 2) = zN a ∧ a < na ∧ pact K hi a D ∧ (qknd Q x = 2 → D.2 = none) ∧ (qknd Q x = 3 → D.2 ≠ none))
  ∧ (qknd Q x = 4 → ∃ k s f a D, qded Q x = some k ∧ qnum Q x = some s ∧ s ≤ 4 ∧ DL[k + s]? = some D ∧ D.2 = none ∧ K (p + 2) = zN f ∧ pSm K (pTm K hi 9) f D.1 ∧ K (p + 3) = zN s ∧ K (p + 4) = zN a ∧ a + s ≤ na ∧ ∀ j, j < s → ∃ E, DL[k + j]? = some E ∧ E.2 ≠ none ∧ pact K hi (a + j) E)
/-- the other reader's row shows Q -/
def rQ (w : XM) (Q : pQ) (DL : List pD) (nt na : Nat) : Prop :=
  gi w 89 0 = zN (qn Q) ∧ gi w 89 1 = zN (qbs (qcnt Q) (qn Q)) ∧ gi w 89 4 = zN (qstp Q).length
  ∧ (∀ u, u < qn Q → gi w 89 (5 + 15 * u) = zN (qlet Q u) ∧ gi w 89 (5 + 15 * u + 1) = zopt (qabv Q u) ∧ gi w 89 (5 + 15 * u + 2) = zN (qcnt Q u) ∧ ∀ i, i < qcnt Q u → gi w 89 (5 + 15 * u + 3 + i) = zN (qbs (qcnt Q) u + i))
  ∧ (∀ x, qok Q x → pMem (gi w 89) nt na Q DL x (110 + 5 * qid Q x))
  ∧ ∀ k j, (qstp Q)[k]? = some j → ∃ a D, gi w 89 (3810 + k) = zN a ∧ a < na ∧ DL[j]? = some D ∧ pact (gi w 89) nt a D
/-- what may be told -/
def qW (Q : pQ) : Prop := qn Q ≤ 7 ∧ (∀ u, u < qn Q → qcnt Q u ≤ 12 ∧ qlet Q u < 7 ∧ ∀ a, qabv Q u = some a → a < qn Q) ∧ (∀ u, qn Q ≤ u → qcnt Q u = 0)
  ∧ (∀ L u, L < 7 → (qul Q L = some u ↔ u < qn Q ∧ qlet Q u = L)) ∧ (∀ u a x, a < 26 → (qnm Q u a = some x ↔ qok Q x ∧ x / 12 = u ∧ (qknd Q x = 0 ∨ qknd Q x = 1 ∨ qknd Q x = 4) ∧ qnam Q x = some a))
  ∧ (∀ x, qok Q x → qknd Q x ≤ 4 ∧ (∀ a, qnam Q x = some a → a < 26) ∧ (qknd Q x = 0 ∨ qknd Q x = 1 ∨ qknd Q x = 4 → (qnam Q x).isSome)) ∧ (qstp Q).length ≤ 10
section TR
variable {N : Nat → Nat} {Q : pQ} {DL : List pD} {nt na : Nat} {m w : XM}
theorem zopt_eq {o : Option Nat} {a : Nat} (ho : ∀ c, o = some c → c < 2147483648) (ha : a < 2147483648) : (zopt o = zN a) = (o = some a) := by
  cases o with
  | none =>
    show (zM = zN a) = _
    rw [zm_N ha]
    exact propext ⟨fun h => h.elim, fun h => by simp at h⟩
  | some c =>
    show (zN c = zN a) = _
    rw [zN_eq (ho c rfl) ha]
    exact propext ⟨fun h => by rw [h], fun h => by simpa using h⟩
theorem zopt_m {o : Option Nat} (ho : ∀ c, o = some c → c < 2147483648) : (zopt o = zM) = (o = none) := by
  cases o with
  | none => exact propext ⟨fun _ => rfl, fun _ => rfl⟩
  | some c =>
    show (zN c = zM) = _
    rw [zN_m (ho c rfl)]
    exact propext ⟨fun h => h.elim, fun h => by simp at h⟩
theorem qbs_le (hW : qW Q) : ∀ u, u ≤ qn Q → qbs (qcnt Q) u ≤ 12 * u
  | 0, _ => Nat.le_refl _
  | u + 1, h => by
    have h1 := qbs_le hW u (by omega)
    have h2 := (hW.2.1 u (by omega)).1
    show qbs (qcnt Q) u + qcnt Q u ≤ _
    omega
theorem qbs_mo (f : Nat → Nat) {u : Nat} : ∀ v, u ≤ v → qbs f u ≤ qbs f v
  | 0, h => by rw [show u = 0 by omega]; exact Nat.le_refl _
  | v + 1, h => by
    by_cases e : u = v + 1
    · rw [e]; exact Nat.le_refl _
    · have := qbs_mo f v (show u ≤ v by omega)
      show _ ≤ qbs f v + f v
      omega
theorem qid_lt (hW : qW Q) {x : Nat} (hx : qok Q x) : qid Q x < qbs (qcnt Q) (qn Q) ∧ qid Q x < 84 ∧ x < 84 := by
  have h1 := qbs_mo (qcnt Q) (u := x / 12 + 1) (qn Q) hx.1
  have h2 : qbs (qcnt Q) (x / 12 + 1) = qbs (qcnt Q) (x / 12) + qcnt Q (x / 12) := rfl
  have h3 := hx.2
  have h4 := qbs_le hW (qn Q) (Nat.le_refl _)
  have h5 := (hW.2.1 _ hx.1).1
  have h6 := hW.1
  have h7 := hx.1
  unfold qid
  omega
theorem r_uby (hN : rN N w) (hQ : rQ w Q DL nt na) (hW : qW Q) {L : Nat} (hL : L < 7) : fX9_unitBy N 89 (zN L) w = some (zopt (qul Q L), w) := by
  have hX := zXF
  have hn := hW.1
  have hu := hW.2.2.2.1
  obtain ⟨n1, n2⟩ := hN
  have key : ∀ (g f u : Nat), qn Q - u = g → g < f → u ≤ qn Q → (∀ v, v < u → qlet Q v ≠ L) → fX9_unitBy_2 N f 89 (zN L) (zN u) w = some (zopt (qul Q L), w) := by
    intro g
    induction g with
    | zero =>
      intro f u hg hf hun hv
      obtain ⟨f, rfl⟩ : ∃ f', f = f' + 1 := ⟨f - 1, by omega⟩
      have e : qul Q L = none := by
        cases h : qul Q L with
        | none => rfl
        | some u0 =>
          have := (hu L u0 hL).1 h
          exact absurd this.2 (hv u0 (by omega))
      rw [fX9_unitBy_2]
      simp only [zN_lit, zv]
      rw [zald (by omega) (by omega), hQ.1]
      simp (disch := omega) only [zN_le]
      rw [if_pos (show qn Q ≤ u by omega), e]
      rfl
    | succ g ih =>
      intro f u hg hf hun hv
      obtain ⟨f, rfl⟩ : ∃ f', f = f' + 1 := ⟨f - 1, by omega⟩
      have hlu := hW.2.1 u (by omega)
      have e1 := (hQ.2.2.2.1 u (by omega)).1
      rw [fX9_unitBy_2]
      simp only [zN_lit, zv]
      rw [zald (by omega) (by omega), hQ.1]
      simp (disch := omega) only [zN_le]
      rw [if_neg (show ¬ qn Q ≤ u by omega)]
      unfold fX9_unitOf
      simp (disch := omega) only [zv, zN_lit, zN_mul, zN_add, zald, Nat.add_zero, e1, zca, zN_eq]
      by_cases q : qlet Q u = L
      · rw [if_pos q, (hu L u hL).2 ⟨by omega, q⟩]
        rfl
      · rw [if_neg q]
        exact ih f (u + 1) (by omega) (by omega) (by omega) (fun v hv' => by
          by_cases e : v = u
          · rw [e]; exact q
          · exact hv v (by omega))
  unfold fX9_unitBy
  simp only [zN_lit]
  exact key (qn Q) XF 0 (by omega) (by omega) (by omega) (fun v hv => by omega)
theorem r_nmd (hN : rN N w) (hQ : rQ w Q DL nt na) (hW : qW Q) {u a : Nat} (hu : u < qn Q) (ha : a < 26) : fX9_named N 89 (zN u) (zN a) w = some (zopt ((qnm Q u a).map (qid Q)), w) := by
  have hX := zXF
  have hn := hW.1
  have hnm := hW.2.2.2.2.1
  have hc := (hW.2.1 u hu).1
  have hbs := qbs_le hW u (by omega)
  obtain ⟨n1, n2⟩ := hN
  obtain ⟨-, -, e2, e3⟩ := hQ.2.2.2.1 u hu
  have key : ∀ (g f i : Nat), qcnt Q u - i = g → g < f → i ≤ qcnt Q u → (∀ j, j < i → ¬ ((qknd Q (12 * u + j) = 0 ∨ qknd Q (12 * u + j) = 1 ∨ qknd Q (12 * u + j) = 4) ∧ qnam Q (12 * u + j) = some a)) → fX9_named_2 N f 89 (zN u) (zN a) (zN i) w = some (zopt ((qnm Q u a).map (qid Q)), w) := by
    intro g
    induction g with
    | zero =>
      intro f i hg hf hi hv
      obtain ⟨f, rfl⟩ : ∃ f', f = f' + 1 := ⟨f - 1, by omega⟩
      have e : qnm Q u a = none := by
        cases h : qnm Q u a with
        | none => rfl
        | some x =>
          obtain ⟨q1, q2, q3, q4⟩ := (hnm u a x ha).1 h
          have q5 := q1.2
          rw [q2] at q5
          have ex : x = 12 * u + x % 12 := by omega
          have hvx := hv (x % 12) (by omega)
          rw [← ex] at hvx
          exact absurd ⟨q3, q4⟩ hvx
      rw [fX9_named_2]
      unfold fX9_unitOf
      simp (disch := omega) only [zv, zN_lit, zN_mul, zN_add, zald, e2, zca, zN_le]
      rw [if_pos (show qcnt Q u ≤ i by omega), e]
      rfl
    | succ g ih =>
      intro f i hg hf hi hv
      obtain ⟨f, rfl⟩ : ∃ f', f = f' + 1 := ⟨f - 1, by omega⟩
      have hok : qok Q (12 * u + i) := ⟨by omega, by rw [show (12 * u + i) / 12 = u by omega]; omega⟩
      have hid : qid Q (12 * u + i) = qbs (qcnt Q) u + i := by
        unfold qid
        rw [show (12 * u + i) / 12 = u by omega, show (12 * u + i) % 12 = i by omega]
      obtain ⟨p1, p2, -⟩ := hQ.2.2.2.2.1 _ hok
      rw [hid] at p1 p2
      obtain ⟨k1, k2, k3⟩ := hW.2.2.2.2.2.1 _ hok
      have e3i := e3 i (by omega)
      have hgo : ¬ ((qknd Q (12 * u + i) = 0 ∨ qknd Q (12 * u + i) = 1 ∨ qknd Q (12 * u + i) = 4) ∧ qnam Q (12 * u + i) = some a) → fX9_named_60 N (fun q0 x1 x2 x3 m0 => fX9_named_2 N f q0 x1 x2 x3 m0) 89 (zN u) (zN a) (zN i) w = some (zopt ((qnm Q u a).map (qid Q)), w) := fun q => by
        unfold fX9_named_60
        simp only [zv, zN_lit, zN_add]
        exact ih f (i + 1) (by omega) (by omega) (by omega) (fun j hj => by
          by_cases e : j = i
          · rw [e]; exact q
          · exact hv j (by omega))
      have h46 : (qknd Q (12 * u + i) = 0 ∨ qknd Q (12 * u + i) = 1 ∨ qknd Q (12 * u + i) = 4) → fX9_named_46 N (fun q0 x1 x2 x3 m0 => fX9_named_2 N f q0 x1 x2 x3 m0) 89 (zN u) (zN a) (zN i) (zN (qbs (qcnt Q) u + i)) w = some (zopt ((qnm Q u a).map (qid Q)), w) := fun q => by
        have p2' := p2 (by omega)
        unfold fX9_named_46 fX9_ofMember
        simp (disch := omega) only [zv, zN_lit, zN_mul, zN_add, zald, p2', zca]
        simp (disch := omega) only [zopt_eq (fun c hc => by have := k2 c hc; omega)]
        by_cases e : qnam Q (12 * u + i) = some a
        · rw [if_pos e, (hnm u a (12 * u + i) ha).2 ⟨hok, by omega, q, e⟩]
          show _ = some (zN (qid Q (12 * u + i)), w)
          rw [hid]
        · rw [if_neg e]
          exact hgo (fun r => e r.2)
      rw [fX9_named_2]
      unfold fX9_unitOf fX9_memberAt fX9_ofMember
      simp (disch := omega) only [zv, zN_lit, zN_mul, zN_add, zald, e2, zca, zN_le, Nat.add_zero]
      rw [if_neg (show ¬ qcnt Q u ≤ i by omega)]
      simp (disch := omega) only [e3i, zN_mul, zN_add, zald, Nat.add_zero, p1, zca, zN_eq]
      by_cases q0 : qknd Q (12 * u + i) = 0
      · rw [if_pos q0]; exact h46 (Or.inl q0)
      rw [if_neg q0]
      by_cases q1 : qknd Q (12 * u + i) = 1
      · rw [if_pos q1]; exact h46 (Or.inr (Or.inl q1))
      rw [if_neg q1]
      by_cases q4 : qknd Q (12 * u + i) = 4
      · rw [if_pos q4]; exact h46 (Or.inr (Or.inr q4))
      rw [if_neg q4]
      exact hgo (fun r => by omega)
  unfold fX9_named
  simp only [zN_lit]
  exact key (qcnt Q u) XF 0 (by omega) (by omega) (by omega) (fun j hj => by omega)
end TR
