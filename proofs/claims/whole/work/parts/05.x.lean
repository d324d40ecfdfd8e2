/-- of each class, field by field: 0 a number; else the kind of what it points to, and 1 -/
def xtab : List (List Nat) := [[0, 0, 11, 11, 11], [7, 11, 11, 11, 11, 0, 0, 11, 11, 11, 0, 0, 0, 0], [7, 11, 11, 11, 0, 11, 14, 0, 11, 11, 0, 0, 0, 0, 0, 0, 0, 5], [0, 0, 0, 0, 3, 7, 12], [0, 0, 11, 0, 0, 0, 0, 0], [0, 11, 11, 0, 11, 11, 11], [0, 11, 11, 11, 11, 11, 11, 11, 11, 11, 11, 0, 11, 6], [11, 11, 0, 0, 0, 11, 11, 11], [11, 0, 2, 7, 1, 3, 0, 3, 11, 4, 8, 0, 0, 0], [0, 11, 0, 0, 0, 0, 0, 0, 11, 11, 11, 13, 11, 11, 11, 0, 0, 0, 11, 11, 11, 11, 11, 11, 11, 11, 13, 0, 0, 0, 0, 0, 0, 0, 0, 0, 0, 0, 11, 11, 11, 0, 11, 11, 11, 13, 11]]
/-! ===== x: memory as functions of numbered cells; what stands at a pc as one judgement ===== -/
abbrev XM : Type := (Nat → Nat → Int32) × (Nat → Nat → Int64) × (Nat → Nat → Option Nat)
def xup {α : Type} (f : Nat → Nat → α) (a k : Nat) (v : α) : Nat → Nat → α := fun b => if b = a then (fun j => if j = k then v else f a j) else f b
def gi (m : XM) (a k : Nat) : Int32 := m.1 a k
def gl (m : XM) (a k : Nat) : Int64 := m.2.1 a k
def gr (m : XM) (a k : Nat) : Option Nat := m.2.2 a k
def si (m : XM) (a k : Nat) (v : Int32) : XM := (xup m.1 a k v, m.2.1, m.2.2)
def sl (m : XM) (a k : Nat) (v : Int64) : XM := (m.1, xup m.2.1 a k v, m.2.2)
def sr (m : XM) (a k : Nat) (v : Option Nat) : XM := (m.1, m.2.1, xup m.2.2 a k v)
/-- how many cells; where each lies; the kind and the length of each -/
abbrev XY : Type := Nat × (Nat → Nat) × (Nat → Nat × Nat)
/-- classes and slots; where the literals and their bytes lie; array classes; the cells -/
abbrev XG : Type := (va_G × (Nat → Nat) × (Nat → Nat)) × (ClassId × ClassId × ClassId × ClassId) × XY
abbrev xad (G : XG) : Nat → Nat := G.2.2.2.1
abbrev xkd (G : XG) (a : Nat) : Nat := (G.2.2.2.2 a).1
abbrev xln (G : XG) (a : Nat) : Nat := (G.2.2.2.2 a).2
def isa (G : XG) (a k : Nat) : Prop := a < G.2.2.1 ∧ xkd G a = k
def xN (G : XG) : Prop := ∀ i j, i < G.2.2.1 → j < G.2.2.1 → xad G i = xad G j → i = j
def xty (k j : Nat) : Nat := if k = 13 then 11 else (xtab.getD k []).getD j 0
def xT (G : XG) (m : XM) : Prop := ∀ a k b, a < G.2.2.1 → gr m a k = some b → xty (xkd G a) k ≠ 0 → isa G b (xty (xkd G a) k - 1)
def xfs (G : XG) (m : XM) (a : Nat) : Nat → List Nat → List Value
  | _, [] => []
  | j, t :: ts => (if t = 0 then Value.int (gi m a j) else va_rf ((gr m a j).map (xad G))) :: xfs G m a (j + 1) ts
def xc (G : XG) (m : XM) (a : Nat) : va_E :=
  if xkd G a = 10 then .inl (G.2.1.1, xln G a, .inl (gi m a))
  else if xkd G a = 11 then .inl (G.2.1.2.1, xln G a, .inr (.inl (gl m a)))
  else if xkd G a = 12 then .inl (G.2.1.2.2.1, xln G a, .inl (gi m a))
  else if xkd G a = 13 then .inl (G.2.1.2.2.2, xln G a, .inr (.inr (.inr (.inr (fun j => (gr m a j).map (xad G))))))
  else .inr (xkd G a, xfs G m a 0 (xtab.getD (xkd G a) []))
def xw (G : XG) (m : XM) : va_W := (List.range G.2.2.1).map (fun i => (xad G i, xc G m i))
def xA (G : XG) : Nat → Prop := fun q => ∃ i, i < G.2.2.1 ∧ q = xad G i
def xtys (G : XG) : List (ClassId × FieldType) := [(G.2.1.1, .int), (G.2.1.2.1, .long), (G.2.1.2.2.1, .boolean), (G.2.1.2.2.2, .array .int)]
def xK (G : XG) (U : State) : Prop := va_K G.1.1 vwCl (xtys G) U
theorem xup_same {α : Type} (f : Nat → Nat → α) (a k : Nat) (v : α) : xup f a k v a k = v := by simp [xup]
theorem xup_row {α : Type} (f : Nat → Nat → α) (a k : Nat) (v : α) : xup f a k v a = fun j => if j = k then v else f a j := by simp [xup]
theorem xup_ne {α : Type} (f : Nat → Nat → α) {a b : Nat} (k : Nat) (v : α) (h : b ≠ a) : xup f a k v b = f b := by simp [xup, h]
theorem xfs_len (G : XG) (m : XM) (a : Nat) : ∀ (ts : List Nat) (j : Nat), (xfs G m a j ts).length = ts.length
  | [], _ => rfl
  | _ :: ts, j => by simp [xfs, xfs_len G m a ts (j + 1)]
theorem xfs_get (G : XG) (m : XM) (a : Nat) : ∀ (ts : List Nat) (j k t : Nat), ts[k]? = some t → (xfs G m a j ts)[k]? = some (if t = 0 then Value.int (gi m a (j + k)) else va_rf ((gr m a (j + k)).map (xad G)))
  | [], _, _, _, h => by simp at h
  | t0 :: ts, j, 0, t, h => by
    simp at h
    subst h
    simp [xfs]
  | t0 :: ts, j, k + 1, t, h => by
    have h1 : ts[k]? = some t := by simpa using h
    have h2 := xfs_get G m a ts (j + 1) k t h1
    simp only [xfs, List.getElem?_cons_succ, h2]
    rw [show j + 1 + k = j + (k + 1) by omega]
theorem xfs_other (G : XG) (m m' : XM) (a : Nat) (h1 : ∀ j, gi m' a j = gi m a j) (h2 : ∀ j, gr m' a j = gr m a j) : ∀ (ts : List Nat) (j : Nat), xfs G m' a j ts = xfs G m a j ts
  | [], _ => rfl
  | t :: ts, j => by simp [xfs, h1, h2, xfs_other G m m' a h1 h2 ts (j + 1)]
theorem xfs_set (G : XG) (m m' : XM) (a : Nat) (v : Value) : ∀ (ts : List Nat) (j k t : Nat), ts[k]? = some t → (if t = 0 then Value.int (gi m' a (j + k)) else va_rf ((gr m' a (j + k)).map (xad G))) = v → (∀ i, i ≠ j + k → gi m' a i = gi m a i ∧ gr m' a i = gr m a i) → xfs G m' a j ts = (xfs G m a j ts).set k v
  | [], _, _, _, h, _, _ => by simp at h
  | t0 :: ts, j, 0, t, h, hv, ho => by
    simp at h
    subst h
    simp only [xfs, List.set_cons_zero]
    have e : ∀ i, xfs G m' a (j + 1 + i) ts = xfs G m a (j + 1 + i) ts := by
      clear hv
      intro i
      induction ts generalizing i with
      | nil => rfl
      | cons t1 ts ih =>
        have := ih (i + 1)
        rw [show j + 1 + (i + 1) = j + 1 + i + 1 by omega] at this
        simp only [xfs, this, (ho (j + 1 + i) (by omega)).1, (ho (j + 1 + i) (by omega)).2]
    have e0 := e 0
    simp only [Nat.add_zero] at e0 hv
    rw [e0, hv]
  | t0 :: ts, j, k + 1, t, h, hv, ho => by
    have h1 : ts[k]? = some t := by simpa using h
    have h2 := xfs_set G m m' a v ts (j + 1) k t h1 (by rw [show j + 1 + k = j + (k + 1) by omega]; exact hv) (fun i hi => ho i (by omega))
    simp only [xfs, List.set_cons_succ, h2, (ho j (by omega)).1, (ho j (by omega)).2]
/-- an object's cell -/
theorem xc_obj {G : XG} {m : XM} {a ci : Nat} (h : xkd G a = ci) (hc : ci < 10) : xc G m a = .inr (ci, xfs G m a 0 (xtab.getD ci [])) := by
  subst h
  unfold xc
  rw [if_neg (by omega), if_neg (by omega), if_neg (by omega), if_neg (by omega)]
theorem xc_I {G : XG} {m : XM} {a : Nat} (h : xkd G a = 10) : xc G m a = .inl (G.2.1.1, xln G a, .inl (gi m a)) := by
  unfold xc
  rw [if_pos h]
theorem xc_J {G : XG} {m : XM} {a : Nat} (h : xkd G a = 11) : xc G m a = .inl (G.2.1.2.1, xln G a, .inr (.inl (gl m a))) := by
  unfold xc
  rw [if_neg (by omega), if_pos h]
theorem xc_Z {G : XG} {m : XM} {a : Nat} (h : xkd G a = 12) : xc G m a = .inl (G.2.1.2.2.1, xln G a, .inl (gi m a)) := by
  unfold xc
  rw [if_neg (by omega), if_neg (by omega), if_pos h]
theorem xc_O {G : XG} {m : XM} {a : Nat} (h : xkd G a = 13) : xc G m a = .inl (G.2.1.2.2.2, xln G a, .inr (.inr (.inr (.inr (fun j => (gr m a j).map (xad G)))))) := by
  unfold xc
  rw [if_neg (by omega), if_neg (by omega), if_neg (by omega), if_pos h]
/-- another cell stays -/
theorem xc_other {G : XG} {m m' : XM} {b : Nat} (h1 : gi m' b = gi m b) (h2 : gl m' b = gl m b) (h3 : gr m' b = gr m b) : xc G m' b = xc G m b := by
  unfold xc
  rw [h1, h2, h3, xfs_other G m m' b (fun j => congrFun h1 j) (fun j => congrFun h3 j)]
theorem xw_at {G : XG} {m : XM} {i : Nat} {q : Nat × va_E} (h : (xw G m)[i]? = some q) : i < G.2.2.1 ∧ q = (xad G i, xc G m i) := by
  unfold xw at h
  rw [List.getElem?_map] at h
  cases h1 : (List.range G.2.2.1)[i]? with
  | none => rw [h1] at h; cases h
  | some j =>
    rw [h1] at h
    have h2 := List.getElem?_eq_some_iff.mp h1
    obtain ⟨h3, h4⟩ := h2
    rw [List.getElem_range] at h4
    subst h4
    cases h
    exact ⟨by simpa using h3, rfl⟩
theorem xget {G : XG} (m : XM) {a : Nat} (h : a < G.2.2.1) : (xw G m)[a]? = some (xad G a, xc G m a) := by
  unfold xw
  rw [List.getElem?_map, List.getElem?_range h]
  rfl
theorem xD {G : XG} (hn : xN G) {A : Nat → Prop} (hA : ∀ i, i < G.2.2.1 → A (xad G i)) (m : XM) : va_D A (xw G m) := by
  constructor
  · intro i j p q hi hj hpq
    obtain ⟨h1, rfl⟩ := xw_at hi
    obtain ⟨h2, rfl⟩ := xw_at hj
    exact hn i j h1 h2 hpq
  · intro k q hk
    obtain ⟨h1, rfl⟩ := xw_at hk
    exact hA k h1
theorem xset {G : XG} {m m' : XM} {a : Nat} {e : va_E} (h : a < G.2.2.1) (he : xc G m' a = e) (ho : ∀ b, b ≠ a → xc G m' b = xc G m b) : (xw G m).set a (xad G a, e) = xw G m' := by
  apply List.ext_getElem?
  intro i
  rw [List.getElem?_set]
  by_cases hi : a = i
  · subst hi
    rw [if_pos rfl, xget m' h, if_pos (by simp [xw, h]), he]
  · rw [if_neg hi]
    unfold xw
    rw [List.getElem?_map, List.getElem?_map]
    cases h1 : (List.range G.2.2.1)[i]? with
    | none => rfl
    | some j =>
      have h2 := List.getElem?_eq_some_iff.mp h1
      obtain ⟨h3, h4⟩ := h2
      rw [List.getElem_range] at h4
      subst h4
      exact congrArg some (congrArg (Prod.mk (xad G i)) (ho i (fun e => hi e.symm)).symm)
