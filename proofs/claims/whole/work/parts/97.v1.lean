/-! ===== v: who may touch whom ===== -/
def zDl (l : List zCode) (v : Nat) : Prop := ∃ q ∈ l, (q.1 = 1 ∨ q.1 = 2) ∧ q.2 / 12 = v
def zCl (l : List zCode) (f : Nat) : Prop := ∃ q ∈ l, q.1 = 2 ∧ q.2 = f
def zDd (d : zDeed) (v : Nat) : Prop := zDl d.1 v ∨ ∃ x, d.2 = some x ∧ x / 12 = v
def zDf (P : zP) (f v : Nat) : Prop := ∃ d ∈ zfun P f, zDd d v
def zCf (P : zP) (f g : Nat) : Prop := ∃ d ∈ zfun P f, zCl d.1 g
/-- functions that may be called, C being called first -/
def zRe (P : zP) (C : Nat → Prop) (g : Nat) : Prop := ∀ S : Nat → Prop, (∀ f, C f → S f) → (∀ f h, S f → zCf P f h → S h) → S g
def zMs (P : zP) (u x : Nat) (d : zDeed) : Prop := zok P x ∧ x / 12 = u ∧ zon P x = true ∧ zknd P x ≠ 4 ∧ zini P x = some d
def zDm (P : zP) (u v : Nat) : Prop := ∃ x d, zMs P u x d ∧ zDd d v
def zCm (P : zP) (u f : Nat) : Prop := ∃ x d, zMs P u x d ∧ zCl d.1 f
/-- u may touch v -/
def zTo (P : zP) (u v : Nat) : Prop := zabv P u = some v ∨ zDm P u v ∨ ∃ g, zRe P (zCm P u) g ∧ zDf P g v
noncomputable def zbt (p : Prop) : Nat := @ite _ p (Classical.propDecidable p) 1 0
theorem zbt_1 {p : Prop} (h : p) : zbt p = 1 := if_pos h
theorem zbt_0 {p : Prop} (h : ¬ p) : zbt p = 0 := if_neg h
theorem zbt_le (p : Prop) : zbt p ≤ 1 := by
  by_cases h : p
  · rw [zbt_1 h]; exact Nat.le_refl _
  · rw [zbt_0 h]; exact Nat.zero_le _
noncomputable def zmk7 (p : Nat → Prop) : Nat := zbt (p 0) + 2 * zbt (p 1) + 4 * zbt (p 2) + 8 * zbt (p 3) + 16 * zbt (p 4) + 32 * zbt (p 5) + 64 * zbt (p 6)
theorem zmk7_lt (p : Nat → Prop) : zmk7 p < 128 := by
  have := zbt_le (p 0); have := zbt_le (p 1); have := zbt_le (p 2); have := zbt_le (p 3); have := zbt_le (p 4); have := zbt_le (p 5); have := zbt_le (p 6)
  unfold zmk7
  omega
theorem zmk7_bit (p : Nat → Prop) {v : Nat} (hv : v < 7) : zmk7 p / 2 ^ v % 2 = zbt (p v) := by
  have := zbt_le (p 0); have := zbt_le (p 1); have := zbt_le (p 2); have := zbt_le (p 3); have := zbt_le (p 4); have := zbt_le (p 5); have := zbt_le (p 6)
  unfold zmk7
  have hc : v = 0 ∨ v = 1 ∨ v = 2 ∨ v = 3 ∨ v = 4 ∨ v = 5 ∨ v = 6 := by omega
  rcases hc with rfl | rfl | rfl | rfl | rfl | rfl | rfl <;> simp only [Nat.reducePow] <;> omega
/-- a bit of a mask -/
def zbi (B v : Nat) : Prop := B / 2 ^ v % 2 = 1
theorem zmk7_eq {p : Nat → Prop} {B : Nat} (hB : B < 128) (h : ∀ v, v < 7 → (zbi B v ↔ p v)) : B = zmk7 p := by
  have key : ∀ v, v < 7 → B / 2 ^ v % 2 = zbt (p v) := fun v hv => by
    by_cases e : p v
    · rw [zbt_1 e]; exact (h v hv).2 e
    · rw [zbt_0 e]
      have h1 : ¬ B / 2 ^ v % 2 = 1 := fun g => e ((h v hv).1 g)
      omega
  have k0 := key 0 (by omega); have k1 := key 1 (by omega); have k2 := key 2 (by omega); have k3 := key 3 (by omega); have k4 := key 4 (by omega); have k5 := key 5 (by omega); have k6 := key 6 (by omega)
  simp only [Nat.reducePow] at k0 k1 k2 k3 k4 k5 k6
  unfold zmk7
  omega
theorem zbi_or : ∀ a, a < 128 → ∀ b, b < 128 → a ||| b < 128 ∧ ∀ v, v < 7 → (((a ||| b) / 2 ^ v % 2 = 1) ↔ (a / 2 ^ v % 2 = 1 ∨ b / 2 ^ v % 2 = 1)) := by
  intro a ha b hb
  refine ⟨Nat.or_lt_two_pow (n := 7) ha hb, fun v _ => ?_⟩
  have e : ∀ x, (x / 2 ^ v % 2 = 1) ↔ x.testBit v = true := fun x => by rw [Nat.testBit_eq_decide_div_mod_eq]; simp
  rw [e, e, e, Nat.testBit_or, Bool.or_eq_true]
theorem zbi_pow {u v : Nat} : zbi (2 ^ u) v ↔ u = v := by
  unfold zbi
  have e : ((2 ^ u) / 2 ^ v % 2 = 1) ↔ (2 ^ u).testBit v = true := by rw [Nat.testBit_eq_decide_div_mod_eq]; simp
  rw [e, Nat.testBit_two_pow]
  simp
theorem zbi_0 (v : Nat) : ¬ zbi 0 v := by
  unfold zbi
  rw [Nat.zero_div]
  omega
noncomputable def zB (P : zP) (u : Nat) : Nat := zmk7 (zTo P u)
/-- what is looked through: from S to S', bits B; D touched and C called by it -/
def vB (P : zP) (S S' : Nat → Bool) (B : Nat) (D C : Nat → Prop) : Prop := (∀ f, S f = true → S' f = true) ∧ (∀ f, C f → S' f = true) ∧ (∀ g, S' g = true → S g = false → zRe P C g ∧ ∀ h, zCf P g h → S' h = true) ∧ B < 128 ∧ ∀ v, v < 7 → (zbi B v ↔ (D v ∨ ∃ g, S' g = true ∧ S g = false ∧ zDf P g v))
section VA
variable {P : zP} {S S1 S2 S' : Nat → Bool} {B B1 B2 : Nat} {D D1 D2 C C1 C2 : Nat → Prop}
theorem zRe_mono (h : ∀ f, C1 f → C2 f) {g : Nat} (hg : zRe P C1 g) : zRe P C2 g := fun S h1 h2 => hg S (fun f hf => h1 f (h f hf)) h2
theorem zRe_in {g : Nat} (h : C g) : zRe P C g := fun _ h1 _ => h1 g h
theorem zRe_step {f g : Nat} (h : zRe P C f) (hc : zCf P f g) : zRe P C g := fun S h1 h2 => h2 f g (h S h1 h2) hc
theorem zRe_bind {g : Nat} (h : zRe P C1 g) (h1 : ∀ f, C1 f → zRe P C2 f) : zRe P C2 g := h (zRe P C2) h1 (fun _ _ hf hc => zRe_step hf hc)
theorem vB_0 : vB P S S 0 (fun _ => False) (fun _ => False) := by
  refine ⟨fun _ h => h, fun _ h => h.elim, fun g h1 h2 => (by rw [h1] at h2; cases h2), by omega, fun v _ => ⟨fun h => absurd h (zbi_0 v), fun h => ?_⟩⟩
  rcases h with h | ⟨g, h1, h2, -⟩
  · exact h.elim
  · rw [h1] at h2; cases h2
theorem vB_tr (h1 : vB P S S1 B1 D1 C1) (h2 : vB P S1 S2 B2 D2 C2) (hD : ∀ v, D v ↔ (D1 v ∨ D2 v)) (hC : ∀ f, C f ↔ (C1 f ∨ C2 f)) : vB P S S2 (B1 ||| B2) D C := by
  obtain ⟨a1, a2, a3, a4, a5⟩ := h1
  obtain ⟨b1, b2, b3, b4, b5⟩ := h2
  obtain ⟨o1, o2⟩ := zbi_or B1 a4 B2 b4
  refine ⟨fun f hf => b1 f (a1 f hf), fun f hf => ?_, fun g hg hn => ?_, o1, fun v hv => ?_⟩
  · rcases (hC f).1 hf with g | g
    · exact b1 f (a2 f g)
    · exact b2 f g
  · by_cases e : S1 g = true
    · obtain ⟨c1, c2⟩ := a3 g e hn
      exact ⟨zRe_mono (fun f hf => (hC f).2 (Or.inl hf)) c1, fun h hh => b1 h (c2 h hh)⟩
    · have e' : S1 g = false := by cases h : S1 g; rfl; exact absurd h e
      obtain ⟨c1, c2⟩ := b3 g hg e'
      exact ⟨zRe_mono (fun f hf => (hC f).2 (Or.inr hf)) c1, c2⟩
  · unfold zbi
    rw [o2 v hv, hD]
    have q1 := a5 v hv
    have q2 := b5 v hv
    unfold zbi at q1 q2
    rw [q1, q2]
    constructor
    · rintro ((h | ⟨g, g1, g2, g3⟩) | (h | ⟨g, g1, g2, g3⟩))
      · exact Or.inl (Or.inl h)
      · exact Or.inr ⟨g, b1 g g1, g2, g3⟩
      · exact Or.inl (Or.inr h)
      · refine Or.inr ⟨g, g1, ?_, g3⟩
        cases h : S g
        · rfl
        · rw [a1 g h] at g2; cases g2
    · rintro ((h | h) | ⟨g, g1, g2, g3⟩)
      · exact Or.inl (Or.inl h)
      · exact Or.inr (Or.inl h)
      · cases h : S1 g
        · exact Or.inr (Or.inr ⟨g, g1, h, g3⟩)
        · exact Or.inl (Or.inr ⟨g, h, g2, g3⟩)
theorem vB_iff (h : vB P S S' B D1 C1) (hD : ∀ v, D v ↔ D1 v) (hC : ∀ f, C f ↔ C1 f) : vB P S S' B D C := by
  have e1 : D = D1 := funext fun v => propext (hD v)
  have e2 : C = C1 := funext fun v => propext (hC v)
  rw [e1, e2]; exact h
/-- one bit -/
theorem vB_1 {u : Nat} (hu : u < 7) : vB P S S (2 ^ u) (fun v => u = v) (fun _ => False) := by
  refine ⟨fun _ h => h, fun _ h => h.elim, fun g h1 h2 => (by rw [h1] at h2; cases h2), ?_, fun v _ => ?_⟩
  · have : 2 ^ u ≤ 2 ^ 6 := Nat.pow_le_pow_right (by omega) (by omega)
    omega
  · rw [zbi_pow]
    constructor
    · exact fun h => Or.inl h
    · rintro (h | ⟨g, h1, h2, -⟩)
      · exact h
      · rw [h1] at h2; cases h2
/-- a function that was not looked through -/
theorem vB_fn {f : Nat} (hn : S f = false) (h : vB P (zset S f true) S' B (zDf P f) (zCf P f)) : vB P S S' B (fun _ => False) (fun g => g = f) := by
  obtain ⟨a1, a2, a3, a4, a5⟩ := h
  have hf : S' f = true := a1 f (zset_eq _ _ _)
  refine ⟨fun g hg => a1 g ?_, fun g hg => by rw [hg]; exact hf, fun g hg hgn => ?_, a4, fun v hv => ?_⟩
  · by_cases e : g = f
    · rw [e, zset_eq]
    · rw [zset_ne _ _ e]; exact hg
  · by_cases e : g = f
    · rw [e]; exact ⟨zRe_in rfl, a2⟩
    · obtain ⟨c1, c2⟩ := a3 g hg (by rw [zset_ne _ _ e]; exact hgn)
      exact ⟨zRe_bind c1 (fun x hx => zRe_step (zRe_in rfl) hx), c2⟩
  · rw [a5 v hv]
    constructor
    · rintro (h | ⟨g, g1, g2, g3⟩)
      · exact Or.inr ⟨f, hf, hn, h⟩
      · have e : g ≠ f := fun e => by rw [e, zset_eq] at g2; cases g2
        rw [zset_ne _ _ e] at g2
        exact Or.inr ⟨g, g1, g2, g3⟩
    · rintro (h | ⟨g, g1, g2, g3⟩)
      · exact h.elim
      · by_cases e : g = f
        · rw [e] at g3; exact Or.inl g3
        · exact Or.inr ⟨g, g1, by rw [zset_ne _ _ e]; exact g2, g3⟩
theorem vB_seen {f : Nat} (h : S f = true) : vB P S S 0 (fun _ => False) (fun g => g = f) := by
  obtain ⟨a1, a2, a3, a4, a5⟩ := vB_0 (P := P) (S := S)
  exact ⟨a1, fun g hg => by rw [hg]; exact h, fun g g1 g2 => (by rw [g1] at g2; cases g2), a4, a5⟩
/-- at the end -/
theorem vB_end (h : vB P (fun _ => false) S' B D C) : B < 128 ∧ ∀ v, v < 7 → (zbi B v ↔ (D v ∨ ∃ g, zRe P C g ∧ zDf P g v)) := by
  obtain ⟨a1, a2, a3, a4, a5⟩ := h
  refine ⟨a4, fun v hv => ?_⟩
  rw [a5 v hv]
  constructor
  · rintro (h | ⟨g, g1, -, g3⟩)
    · exact Or.inl h
    · exact Or.inr ⟨g, (a3 g g1 rfl).1, g3⟩
  · rintro (h | ⟨g, g1, g3⟩)
    · exact Or.inl h
    · exact Or.inr ⟨g, g1 (fun g => S' g = true) a2 (fun f h hf hc => (a3 f hf rfl).2 h hc), rfl, g3⟩
end VA
theorem zDl_app {l l' : List zCode} (v : Nat) : zDl (l ++ l') v ↔ (zDl l v ∨ zDl l' v) := by
  unfold zDl
  constructor
  · rintro ⟨q, hq, h⟩
    rcases List.mem_append.mp hq with g | g
    · exact Or.inl ⟨q, g, h⟩
    · exact Or.inr ⟨q, g, h⟩
  · rintro (⟨q, hq, h⟩ | ⟨q, hq, h⟩)
    · exact ⟨q, List.mem_append_left _ hq, h⟩
    · exact ⟨q, List.mem_append_right _ hq, h⟩
theorem zCl_app {l l' : List zCode} (v : Nat) : zCl (l ++ l') v ↔ (zCl l v ∨ zCl l' v) := by
  unfold zCl
  constructor
  · rintro ⟨q, hq, h⟩
    rcases List.mem_append.mp hq with g | g
    · exact Or.inl ⟨q, g, h⟩
    · exact Or.inr ⟨q, g, h⟩
  · rintro (⟨q, hq, h⟩ | ⟨q, hq, h⟩)
    · exact ⟨q, List.mem_append_left _ hq, h⟩
    · exact ⟨q, List.mem_append_right _ hq, h⟩
theorem zDl_op {o : zCode} {l : List zCode} (ho : o.1 ≠ 1 ∧ o.1 ≠ 2) (v : Nat) : zDl (o :: l) v ↔ zDl l v := by
  constructor
  · rintro ⟨q, hq, h, h'⟩
    rcases List.mem_cons.mp hq with g | g
    · rw [g] at h; omega
    · exact ⟨q, g, h, h'⟩
  · rintro ⟨q, hq, h⟩
    exact ⟨q, List.mem_cons_of_mem _ hq, h⟩
theorem zCl_op {o : zCode} {l : List zCode} (ho : o.1 ≠ 2) (v : Nat) : zCl (o :: l) v ↔ zCl l v := by
  constructor
  · rintro ⟨q, hq, h, h'⟩
    rcases List.mem_cons.mp hq with g | g
    · rw [g] at h; exact absurd h ho
    · exact ⟨q, g, h, h'⟩
  · rintro ⟨q, hq, h⟩
    exact ⟨q, List.mem_cons_of_mem _ hq, h⟩
theorem zDl_nil (v : Nat) : zDl [] v ↔ False := ⟨fun ⟨_, h, _⟩ => (by cases h), fun h => h.elim⟩
theorem zCl_nil (v : Nat) : zCl [] v ↔ False := ⟨fun ⟨_, h, _⟩ => (by cases h), fun h => h.elim⟩
theorem zDl_one {q : zCode} (v : Nat) : zDl [q] v ↔ ((q.1 = 1 ∨ q.1 = 2) ∧ q.2 / 12 = v) := by
  constructor
  · rintro ⟨c, hc, h⟩
    rw [List.mem_singleton.mp hc] at h; exact h
  · exact fun h => ⟨q, List.mem_cons_self, h⟩
theorem zCl_one {q : zCode} (v : Nat) : zCl [q] v ↔ (q.1 = 2 ∧ q.2 = v) := by
  constructor
  · rintro ⟨c, hc, h⟩
    rw [List.mem_singleton.mp hc] at h; exact h
  · exact fun h => ⟨q, List.mem_cons_self, h⟩
/-- how many are noted -/
def zct (S : Nat → Bool) : Nat → Nat
  | 0 => 0
  | n + 1 => zct S n + if S n then 1 else 0
theorem zct_le (S : Nat → Bool) : ∀ n, zct S n ≤ n
  | 0 => Nat.le_refl _
  | n + 1 => by
    have := zct_le S n
    show zct S n + (if S n then 1 else 0) ≤ n + 1
    split <;> omega
theorem zct_o {S : Nat → Bool} {f : Nat} : ∀ n, n ≤ f → zct (zset S f true) n = zct S n
  | 0, _ => rfl
  | n + 1, h => by
    show zct (zset S f true) n + (if zset S f true n then 1 else 0) = zct S n + if S n then 1 else 0
    rw [zct_o n (by omega), zset_ne _ _ (by omega)]
theorem zct_set {S : Nat → Bool} {f : Nat} (h : S f = false) : ∀ n, f < n → zct (zset S f true) n = zct S n + 1
  | 0, h0 => by omega
  | n + 1, h0 => by
    show zct (zset S f true) n + (if zset S f true n then 1 else 0) = zct S n + (if S n then 1 else 0) + 1
    by_cases e : f = n
    · subst e
      rw [zct_o f (Nat.le_refl _), zset_eq, h]; rfl
    · rw [zct_set h n (by omega), zset_ne _ _ (by omega)]; omega
theorem zct_mono {S S' : Nat → Bool} (h : ∀ f, S f = true → S' f = true) : ∀ n, zct S n ≤ zct S' n
  | 0 => Nat.le_refl _
  | n + 1 => by
    have := zct_mono h n
    show zct S n + (if S n then 1 else 0) ≤ zct S' n + (if S' n then 1 else 0)
    cases e : S n
    · simp only [Bool.false_eq_true, if_false]; omega
    · rw [h n e]; simp only [if_true]; omega
