/-- of each class, field by field: 0 a number; else the kind of what it points to, and 1 -/
def xtab : List (List Nat) := [[0, 0, 11, 11, 11], [7, 11, 11, 11, 11, 0, 0, 11, 11, 11, 0, 0, 0, 0], [7, 11, 11, 11, 0, 11, 14, 0, 11, 11, 0, 0, 0, 0, 0, 0, 0, 5], [0, 0, 0, 0, 3, 7, 12], [0, 0, 11, 0, 0, 0, 0, 0], [0, 11, 11, 0, 11, 11, 11], [0, 11, 11, 11, 11, 11, 11, 11, 11, 11, 11, 0, 11, 6], [11, 11, 0, 0, 0, 11, 11, 11], [11, 0, 2, 7, 1, 3, 0, 3, 11, 4, 8, 0, 0, 0], [0, 11, 0, 0, 0, 0, 0, 0, 11, 11, 11, 13, 11, 11, 11, 0, 0, 0, 11, 11, 11, 11, 11, 11, 11, 11, 13, 0, 0, 0, 0, 0, 0, 0, 0, 0, 0, 0, 11, 11, 11, 0, 11, 11, 11, 13, 11]]
/-! ===== x: memory as functions; what stands at a pc as one judgement ===== -/
abbrev XM : Type := (Nat → Nat → Int32) × (Nat → Nat → Int64) × (Nat → Nat → Option Nat)
def xup {α : Type} (f : Nat → Nat → α) (a k : Nat) (v : α) : Nat → Nat → α := fun b => if b = a then (fun j => if j = k then v else f a j) else f b
def gi (m : XM) (a k : Nat) : Int32 := m.1 a k
def gl (m : XM) (a k : Nat) : Int64 := m.2.1 a k
def gr (m : XM) (a k : Nat) : Option Nat := m.2.2 a k
def si (m : XM) (a k : Nat) (v : Int32) : XM := (xup m.1 a k v, m.2.1, m.2.2)
def sl (m : XM) (a k : Nat) (v : Int64) : XM := (m.1, xup m.2.1 a k v, m.2.2)
def sr (m : XM) (a k : Nat) (v : Option Nat) : XM := (m.1, m.2.1, xup m.2.2 a k v)
/-- the addresses; the kind and the length of each -/
abbrev XY : Type := List Nat × (Nat → Nat × Nat)
abbrev XG : Type := va_G × (ClassId × ClassId × ClassId × ClassId) × XY
def isa (G : XG) (a k : Nat) : Prop := a ∈ G.2.2.1 ∧ (G.2.2.2 a).1 = k
def xln (G : XG) (a : Nat) : Nat := (G.2.2.2 a).2
def xty (k j : Nat) : Nat := if k = 13 then 11 else (xtab.getD k []).getD j 0
def xT (G : XG) (m : XM) : Prop := ∀ a k b, a ∈ G.2.2.1 → gr m a k = some b → xty (G.2.2.2 a).1 k ≠ 0 → isa G b (xty (G.2.2.2 a).1 k - 1)
def xfs (m : XM) (a : Nat) : Nat → List Nat → List Value
  | _, [] => []
  | j, t :: ts => (if t = 0 then Value.int (gi m a j) else va_rf (gr m a j)) :: xfs m a (j + 1) ts
def xc (G : XG) (m : XM) (a : Nat) : va_E :=
  if (G.2.2.2 a).1 = 10 then .inl (G.2.1.1, xln G a, .inl (gi m a))
  else if (G.2.2.2 a).1 = 11 then .inl (G.2.1.2.1, xln G a, .inr (.inl (gl m a)))
  else if (G.2.2.2 a).1 = 12 then .inl (G.2.1.2.2.1, xln G a, .inl (gi m a))
  else if (G.2.2.2 a).1 = 13 then .inl (G.2.1.2.2.2, xln G a, .inr (.inr (.inr (.inr (gr m a)))))
  else .inr ((G.2.2.2 a).1, xfs m a 0 (xtab.getD (G.2.2.2 a).1 []))
def xw (G : XG) (m : XM) : va_W := va_pl G.2.2.1 (xc G m)
def xA (G : XG) : Nat → Prop := fun q => q ∈ G.2.2.1
def xtys (G : XG) : List (ClassId × FieldType) := [(G.2.1.1, .int), (G.2.1.2.1, .long), (G.2.1.2.2.1, .boolean), (G.2.1.2.2.2, .array .int)]
def xK (G : XG) (U : State) : Prop := va_K G.1 vwCl (xtys G) U
theorem xup_same {α : Type} (f : Nat → Nat → α) (a k : Nat) (v : α) : xup f a k v a k = v := by simp [xup]
theorem xup_row {α : Type} (f : Nat → Nat → α) (a k : Nat) (v : α) : xup f a k v a = fun j => if j = k then v else f a j := by simp [xup]
theorem xup_ne {α : Type} (f : Nat → Nat → α) {a b : Nat} (k : Nat) (v : α) (h : b ≠ a) : xup f a k v b = f b := by simp [xup, h]
theorem xfs_len (m : XM) (a : Nat) : ∀ (ts : List Nat) (j : Nat), (xfs m a j ts).length = ts.length
  | [], _ => rfl
  | _ :: ts, j => by simp [xfs, xfs_len m a ts (j + 1)]
theorem xfs_get (m : XM) (a : Nat) : ∀ (ts : List Nat) (j k t : Nat), ts[k]? = some t → (xfs m a j ts)[k]? = some (if t = 0 then Value.int (gi m a (j + k)) else va_rf (gr m a (j + k)))
  | [], _, _, _, h => by simp at h
  | t0 :: ts, j, 0, t, h => by
    simp at h
    subst h
    simp [xfs]
  | t0 :: ts, j, k + 1, t, h => by
    have h1 : ts[k]? = some t := by simpa using h
    have h2 := xfs_get m a ts (j + 1) k t h1
    simp only [xfs, List.getElem?_cons_succ, h2]
    rw [show j + 1 + k = j + (k + 1) by omega]
theorem xfs_other (m m' : XM) (a : Nat) (h1 : ∀ j, gi m' a j = gi m a j) (h2 : ∀ j, gr m' a j = gr m a j) : ∀ (ts : List Nat) (j : Nat), xfs m' a j ts = xfs m a j ts
  | [], _ => rfl
  | t :: ts, j => by simp [xfs, h1, h2, xfs_other m m' a h1 h2 ts (j + 1)]
theorem xfs_set (m m' : XM) (a : Nat) (v : Value) : ∀ (ts : List Nat) (j k t : Nat), ts[k]? = some t → (if t = 0 then Value.int (gi m' a (j + k)) else va_rf (gr m' a (j + k))) = v → (∀ i, i ≠ j + k → gi m' a i = gi m a i ∧ gr m' a i = gr m a i) → xfs m' a j ts = (xfs m a j ts).set k v
  | [], _, _, _, h, _, _ => by simp at h
  | t0 :: ts, j, 0, t, h, hv, ho => by
    simp at h
    subst h
    simp only [xfs, List.set_cons_zero]
    have e : ∀ i, xfs m' a (j + 1 + i) ts = xfs m a (j + 1 + i) ts := by
      clear hv
      intro i
      induction ts generalizing i with
      | nil => rfl
      | cons t1 ts ih =>
        have := ih (i + 1)
        rw [show j + 1 + (i + 1) = j + 1 + i + 1 by omega] at this
        simp only [xfs, this, (ho (j + 1 + i) (by omega)).1, (ho (j + 1 + i) (by omega)).2]
    have e0 := e 0
    simp only [Nat.add_zero] at e0 hv
    rw [e0, hv]
  | t0 :: ts, j, k + 1, t, h, hv, ho => by
    have h1 : ts[k]? = some t := by simpa using h
    have h2 := xfs_set m m' a v ts (j + 1) k t h1 (by rw [show j + 1 + k = j + (k + 1) by omega]; exact hv) (fun i hi => ho i (by omega))
    simp only [xfs, List.set_cons_succ, h2, (ho j (by omega)).1, (ho j (by omega)).2]
/-- an object's cell -/
theorem xc_obj {G : XG} {m : XM} {a ci : Nat} (h : (G.2.2.2 a).1 = ci) (hc : ci < 10) : xc G m a = .inr (ci, xfs m a 0 (xtab.getD ci [])) := by
  subst h
  unfold xc
  rw [if_neg (by omega), if_neg (by omega), if_neg (by omega), if_neg (by omega)]
theorem xc_I {G : XG} {m : XM} {a : Nat} (h : (G.2.2.2 a).1 = 10) : xc G m a = .inl (G.2.1.1, xln G a, .inl (gi m a)) := by
  unfold xc
  rw [if_pos h]
theorem xc_J {G : XG} {m : XM} {a : Nat} (h : (G.2.2.2 a).1 = 11) : xc G m a = .inl (G.2.1.2.1, xln G a, .inr (.inl (gl m a))) := by
  unfold xc
  rw [if_neg (by omega), if_pos h]
theorem xc_Z {G : XG} {m : XM} {a : Nat} (h : (G.2.2.2 a).1 = 12) : xc G m a = .inl (G.2.1.2.2.1, xln G a, .inl (gi m a)) := by
  unfold xc
  rw [if_neg (by omega), if_neg (by omega), if_pos h]
theorem xc_O {G : XG} {m : XM} {a : Nat} (h : (G.2.2.2 a).1 = 13) : xc G m a = .inl (G.2.1.2.2.2, xln G a, .inr (.inr (.inr (.inr (gr m a))))) := by
  unfold xc
  rw [if_neg (by omega), if_neg (by omega), if_neg (by omega), if_pos h]
/-- another cell stays -/
theorem xc_other {G : XG} {m m' : XM} {b : Nat} (h1 : gi m' b = gi m b) (h2 : gl m' b = gl m b) (h3 : gr m' b = gr m b) : xc G m' b = xc G m b := by
  unfold xc
  rw [h1, h2, h3, xfs_other m m' b (fun j => congrFun h1 j) (fun j => congrFun h3 j)]
theorem xD {G : XG} (hn : G.2.2.1.Nodup) (m : XM) : va_D (xA G) (xw G m) := by
  constructor
  · intro i j p q hi hj hpq
    unfold xw va_pl at hi hj
    rw [List.getElem?_map] at hi hj
    cases h1 : G.2.2.1[i]? with
    | none => rw [h1] at hi; cases hi
    | some a =>
      cases h2 : G.2.2.1[j]? with
      | none => rw [h2] at hj; cases hj
      | some b =>
        rw [h1] at hi
        rw [h2] at hj
        cases hi
        cases hj
        have hab : a = b := hpq
        subst hab
        have hi' := (List.getElem?_eq_some_iff.mp h1)
        have hj' := (List.getElem?_eq_some_iff.mp h2)
        obtain ⟨li, ei⟩ := hi'
        obtain ⟨lj, ej⟩ := hj'
        exact (List.getElem_inj hn).mp (ei.trans ej.symm)
  · intro k q hk
    unfold xw va_pl at hk
    rw [List.getElem?_map] at hk
    cases h1 : G.2.2.1[k]? with
    | none => rw [h1] at hk; cases hk
    | some a =>
      rw [h1] at hk
      cases hk
      exact List.mem_of_getElem? h1
theorem xget {G : XG} (m : XM) {a : Nat} (h : a ∈ G.2.2.1) : ∃ k : Nat, (xw G m)[k]? = some (a, xc G m a) := va_pl_get (X := []) h
theorem xset {G : XG} (hn : G.2.2.1.Nodup) {m m' : XM} {a k : Nat} {e : va_E} (h : a ∈ G.2.2.1) (hk : (xw G m)[k]? = some (a, xc G m a)) (he : xc G m' a = e) (ho : ∀ b, b ≠ a → xc G m' b = xc G m b) : (xw G m).set k (a, e) = xw G m' := by
  have h1 := va_pl_set (X := []) (e := e) (xD hn m) h hk
  refine Eq.trans h1 ?_
  show va_pl _ _ = va_pl _ _
  refine va_pl_congr (fun b => ?_)
  unfold va_up
  by_cases hb : b = a
  · subst hb
    rw [if_pos rfl, he]
  · rw [if_neg hb, ho b hb]
