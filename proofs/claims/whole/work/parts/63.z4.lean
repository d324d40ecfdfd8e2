/-! ===== z: the class's memory shows a program, and the state of a run ===== -/
def zopt : Option Nat → Int32
  | none => zM
  | some x => zN x
def zUN (N : Nat → Nat) (c : Nat) : Prop := N (c + 1) = 7 ∧ N (c + 2) = 7 ∧ N (c + 3) = 7 ∧ N (c + 4) = 84 ∧ N (c + 5) = 84 ∧ N (c + 6) = 84 ∧ N (c + 7) = 84 ∧ N (c + 8) = 84 ∧ N (c + 9) = 84 ∧ N (c + 10) = 182 ∧ N (c + 11) = 10 ∧ N (c + 13) = 600 ∧ N (c + 14) = 600 ∧ N (c + 15) = 300 ∧ N (c + 16) = 300 ∧ N (c + 17) = 300
def zUr (m : XM) (c : Nat) : Prop := gr m c 1 = some (c + 1) ∧ gr m c 2 = some (c + 2) ∧ gr m c 3 = some (c + 3) ∧ gr m c 4 = some (c + 4) ∧ gr m c 5 = some (c + 5) ∧ gr m c 6 = some (c + 6) ∧ gr m c 7 = some (c + 7) ∧ gr m c 8 = some (c + 8) ∧ gr m c 9 = some (c + 9) ∧ gr m c 10 = some (c + 10) ∧ gr m c 12 = some (c + 11) ∧ gr m c 13 = some (c + 12) ∧ gr m (c + 12) 1 = some (c + 13) ∧ gr m (c + 12) 2 = some (c + 14) ∧ gr m (c + 12) 4 = some (c + 15) ∧ gr m (c + 12) 5 = some (c + 16) ∧ gr m (c + 12) 6 = some (c + 17)
def zRN (N : Nat → Nat) (r : Nat) : Prop := N (r + 1) = 7 ∧ N (r + 2) = 84 ∧ N (r + 3) = 84 ∧ N (r + 4) = 7 ∧ N (r + 5) = 3 ∧ N (r + 6) = 7 ∧ N (r + 7) = 7 ∧ N (r + 8) = 7 ∧ N (r + 9) = 20 ∧ N (r + 10) = 168 ∧ N (r + 12) = 20
def zRr (m : XM) (r c : Nat) : Prop := gr m r 0 = some c ∧ gr m r 1 = some (r + 1) ∧ gr m r 2 = some (r + 2) ∧ gr m r 3 = some (r + 3) ∧ gr m r 5 = some (r + 4) ∧ gr m r 6 = some (r + 5) ∧ gr m (r + 5) 0 = some (r + 6) ∧ gr m (r + 5) 1 = some (r + 7) ∧ gr m (r + 5) 2 = some (r + 8) ∧ gr m r 8 = some (r + 9) ∧ gr m r 9 = some (r + 10) ∧ gr m r 17 = some (r + 11) ∧ gr m (r + 11) 2 = some (r + 12)
/-- codes from place f on -/
def zcod (m : XM) (c : Nat) : Nat → List zCode → Prop
  | _, [] => True
  | f, q :: l => gi m (c + 13) f = zN q.1 ∧ gi m (c + 14) f = zN q.2 ∧ zcod m c (f + 1) l
/-- a deed with the number k -/
def zdat (m : XM) (c k : Nat) (d : zDeed) : Prop := k < 300 ∧ ∃ f, gi m (c + 15) k = zN f ∧ gi m (c + 16) k = zN (f + d.1.length) ∧ f + d.1.length ≤ 600 ∧ zcod m c f d.1 ∧ gi m (c + 17) k = zopt d.2
def zdats (m : XM) (c : Nat) : Nat → List zDeed → Prop
  | _, [] => True
  | k, d :: l => zdat m c k d ∧ zdats m c (k + 1) l
def zCP (m : XM) (c : Nat) (P : zP) : Prop :=
  gi m c 0 = zN (zn P) ∧ gi m c 11 = zN (zstp P).length
  ∧ (∀ u, u < zn P → gi m (c + 1) u = zN (zlet P u) ∧ gi m (c + 2) u = zopt (zabv P u) ∧ gi m (c + 3) u = zN (zcnt P u))
  ∧ (∀ x, zok P x → gi m (c + 4) x = zN (zknd P x) ∧ gi m (c + 5) x = zopt (znam P x) ∧ gi m (c + 6) x = zopt (znum P x) ∧ gi m (c + 8) x = (if zon P x then zN 1 else zN 0))
  ∧ (∀ u i, u < zn P → i < zcnt P u → gi m (c + 9) (12 * u + i) = zN (12 * u + zplc P u i))
  ∧ (∀ x, zok P x → (zknd P x ≠ 4 → (zini P x = none → gi m (c + 7) x = zM) ∧ ∀ d, zini P x = some d → ∃ k, gi m (c + 7) x = zN k ∧ zdat m c k d) ∧ (zknd P x = 4 → ∃ k, gi m (c + 7) x = zN k ∧ zdats m c k (zfun P x) ∧ znum P x = some ((zfun P x).length - 1)))
  ∧ (∀ k d, (zstp P)[k]? = some d → ∃ j, gi m (c + 11) k = zN j ∧ zdat m c j d)
/-- units and a run at c, at r: lengths, references, the program -/
def zU (N : Nat → Nat) (m : XM) (r c : Nat) (P : zP) : Prop := zUN N c ∧ zRN N r ∧ (c + 18 ≤ r ∨ r + 13 ≤ c) ∧ zwf P ∧ zUr m c ∧ zCP m c P ∧ zRr m r c
theorem zcod_fr {m m' : XM} {c : Nat} (h1 : ∀ k, gi m' (c + 13) k = gi m (c + 13) k) (h2 : ∀ k, gi m' (c + 14) k = gi m (c + 14) k) : ∀ {f : Nat} {l : List zCode}, zcod m c f l → zcod m' c f l
  | _, [], _ => trivial
  | _, _ :: _, h => ⟨(h1 _).trans h.1, (h2 _).trans h.2.1, zcod_fr h1 h2 h.2.2⟩
theorem zdat_fr {m m' : XM} {c k : Nat} {d : zDeed} (h0 : ∀ a k, c ≤ a → a < c + 18 → gi m' a k = gi m a k) (h : zdat m c k d) : zdat m' c k d := by
  obtain ⟨h1, f, h2, h3, h4, h5, h6⟩ := h
  exact ⟨h1, f, (h0 _ _ (by omega) (by omega)).trans h2, (h0 _ _ (by omega) (by omega)).trans h3, h4, zcod_fr (fun _ => h0 _ _ (by omega) (by omega)) (fun _ => h0 _ _ (by omega) (by omega)) h5, (h0 _ _ (by omega) (by omega)).trans h6⟩
theorem zdats_fr {m m' : XM} {c : Nat} (h0 : ∀ a k, c ≤ a → a < c + 18 → gi m' a k = gi m a k) : ∀ {k : Nat} {l : List zDeed}, zdats m c k l → zdats m' c k l
  | _, [], _ => trivial
  | _, _ :: _, h => ⟨zdat_fr h0 h.1, zdats_fr h0 h.2⟩
theorem zCP_fr {m m' : XM} {c : Nat} {P : zP} (h0 : ∀ a k, c ≤ a → a < c + 18 → gi m' a k = gi m a k) (h : zCP m c P) : zCP m' c P := by
  obtain ⟨h1, h2, h3, h4, h5, h6, h7⟩ := h
  have e : ∀ a k, a < 18 → gi m' (c + a) k = gi m (c + a) k := fun a k ha => h0 _ _ (by omega) (by omega)
  refine ⟨(h0 c 0 (by omega) (by omega)).trans h1, (h0 c 11 (by omega) (by omega)).trans h2, fun u hu => ?_, fun x hx => ?_, fun u i hu hi => ?_, fun x hx => ⟨fun hk => ?_, fun hk => ?_⟩, fun k d hd => ?_⟩
  · rw [e 1 _ (by omega), e 2 _ (by omega), e 3 _ (by omega)]; exact h3 u hu
  · rw [e 4 _ (by omega), e 5 _ (by omega), e 6 _ (by omega), e 8 _ (by omega)]; exact h4 x hx
  · rw [e 9 _ (by omega)]; exact h5 u i hu hi
  · rw [e 7 _ (by omega)]
    obtain ⟨q1, q2⟩ := (h6 x hx).1 hk
    refine ⟨q1, fun d hd => ?_⟩
    obtain ⟨k, q3, q4⟩ := q2 d hd
    exact ⟨k, q3, zdat_fr h0 q4⟩
  · rw [e 7 _ (by omega)]
    obtain ⟨k, q3, q4, q5⟩ := (h6 x hx).2 hk
    exact ⟨k, q3, zdats_fr h0 q4, q5⟩
  · rw [e 11 _ (by omega)]
    obtain ⟨j, q1, q2⟩ := h7 k d hd
    exact ⟨j, q1, zdat_fr h0 q2⟩
theorem zUr_fr {m m' : XM} {c : Nat} (h0 : ∀ a k, c ≤ a → a < c + 18 → gr m' a k = gr m a k) (h : zUr m c) : zUr m' c := by
  unfold zUr at h ⊢
  rw [h0 c 1 (by omega) (by omega), h0 c 2 (by omega) (by omega), h0 c 3 (by omega) (by omega), h0 c 4 (by omega) (by omega), h0 c 5 (by omega) (by omega), h0 c 6 (by omega) (by omega), h0 c 7 (by omega) (by omega), h0 c 8 (by omega) (by omega), h0 c 9 (by omega) (by omega), h0 c 10 (by omega) (by omega), h0 c 12 (by omega) (by omega), h0 c 13 (by omega) (by omega), h0 (c + 12) 1 (by omega) (by omega), h0 (c + 12) 2 (by omega) (by omega), h0 (c + 12) 4 (by omega) (by omega), h0 (c + 12) 5 (by omega) (by omega), h0 (c + 12) 6 (by omega) (by omega)]
  exact h
/-- the run's own cells change, and none of its references -/
theorem zU_fr {N : Nat → Nat} {m m' : XM} {r c : Nat} {P : zP} (h : zU N m r c P) (g : zfr r (r + 13) m m') (hr : ∀ a k, r ≤ a → a < r + 13 → gr m' a k = gr m a k) : zU N m' r c P := by
  obtain ⟨h1, h2, h3, h4, h5, h6, h7⟩ := h
  refine ⟨h1, h2, h3, h4, zUr_fr (fun a k q1 q2 => (g a (by omega)).2.2 k) h5, zCP_fr (fun a k q1 q2 => (g a (by omega)).1 k) h6, ?_⟩
  unfold zRr at h7 ⊢
  rw [hr r 0 (by omega) (by omega), hr r 1 (by omega) (by omega), hr r 2 (by omega) (by omega), hr r 3 (by omega) (by omega), hr r 5 (by omega) (by omega), hr r 6 (by omega) (by omega), hr (r + 5) 0 (by omega) (by omega), hr (r + 5) 1 (by omega) (by omega), hr (r + 5) 2 (by omega) (by omega), hr r 8 (by omega) (by omega), hr r 9 (by omega) (by omega), hr r 17 (by omega) (by omega), hr (r + 11) 2 (by omega) (by omega)]
  exact h7
def zpick {α : Type} : List α → Nat → Option α
  | [], _ => none
  | x :: l, k => if k = l.length then some x else zpick l k
theorem zpick_none {α : Type} : ∀ {l : List α} {k : Nat}, l.length ≤ k → zpick l k = none
  | [], _, _ => rfl
  | x :: l, k, h => by
    simp at h
    unfold zpick
    rw [if_neg (by omega), zpick_none (by omega)]
def zb (x : Nat) : Nat := if x = 0 then 1 else 0
def zfree (f : Nat → Nat) : Nat := zb (f 0) + zb (f 1) + zb (f 2) + zb (f 3) + zb (f 4) + zb (f 5) + zb (f 6)
theorem zb_le {a b : Nat} (h : a = 0 → b = 0) : zb a ≤ zb b := by
  unfold zb
  split
  · rw [if_pos (h ‹_›)]; exact Nat.le_refl 1
  · exact Nat.zero_le _
theorem zfree_le {f g : Nat → Nat} (h : ∀ u, f u = 0 → g u = 0) : zfree f ≤ zfree g := by
  unfold zfree
  have := zb_le (h 0); have := zb_le (h 1); have := zb_le (h 2); have := zb_le (h 3); have := zb_le (h 4); have := zb_le (h 5); have := zb_le (h 6)
  omega
theorem zfree_set {f : Nat → Nat} {u v : Nat} (hu : u < 7) (h0 : f u = 0) (hv : v ≠ 0) : zfree (zset f u v) + 1 = zfree f := by
  have e : ∀ i, zb (zset f u v i) + (if i = u then 1 else 0) = zb (f i) := by
    intro i
    by_cases hi : i = u
    · subst hi
      rw [zset_eq, if_pos rfl]
      unfold zb
      rw [if_neg hv, if_pos h0]
    · rw [zset_ne _ _ hi, if_neg hi]; rfl
  have e0 := e 0; have e1 := e 1; have e2 := e 2; have e3 := e 3; have e4 := e 4; have e5 := e 5; have e6 := e 6
  unfold zfree
  have : (if 0 = u then 1 else 0) + (if 1 = u then 1 else 0) + (if 2 = u then 1 else 0) + (if 3 = u then 1 else 0) + (if 4 = u then 1 else 0) + (if 5 = u then 1 else 0) + (if 6 = u then 1 else 0) = 1 := by
    have : u = 0 ∨ u = 1 ∨ u = 2 ∨ u = 3 ∨ u = 4 ∨ u = 5 ∨ u = 6 := by omega
    rcases this with h | h | h | h | h | h | h <;> subst h <;> rfl
  omega
/-- the one surprise that is wanted -/
def zsgt (m : XM) (a : Nat) (P : zP) (q : zRec) : Prop := gi m a 3 = zN q.1 ∧ gi m a 4 = zopt (znam P q.1) ∧ gi m a 5 = q.2.1 ∧ gi m a 6 = zN q.2.2.1 ∧ gi m a 7 = zN q.2.2.2.2 ∧ gi m a 1 = zN q.2.2.2.1.length ∧ zstk m (a + 1) q.2.2.2.1
/-- what holds of a run's state -/
def zSi (P : zP) (s : zS) : Prop := (∀ u, zst s u ≤ 3) ∧ (zopn s).length ≤ 20 ∧ (∀ x ∈ zopn s, x < 700) ∧ zwk s ≤ 3000 ∧ (zsur s).length ≤ zwk s ∧ zlos s ≤ zwk s ∧ zsp s ≤ 10 ∧ (zbeg s).length + zfree (zst s) ≤ 7 ∧ ∀ q ∈ zsur s, zok P q.1 ∧ q.2.2.2.1.length ≤ 20
/-- the class's run at r shows the state s (t: what is broken is shown) -/
def zCr (t : Bool) (m : XM) (r : Nat) (P : zP) (s : zS) : Prop :=
  (∀ u, u < 7 → gi m (r + 1) u = zN (zst s u)) ∧ (∀ x, zok P x → gi m (r + 2) x = zval s x) ∧ (∀ x, zok P x → zst s (x / 12) = 1 → gi m (r + 3) x = (if zmk s x then zN 1 else zN 0))
  ∧ gi m r 4 = zN (zbeg s).length ∧ zstk m (r + 4) (zbeg s)
  ∧ gi m r 11 = zN (zwk s) ∧ gi m r 12 = zN (zsur s).length ∧ gi m r 13 = zN (zlos s) ∧ gi m r 14 = zN (zfs s) ∧ gi m r 16 = zN (zsp s)
  ∧ (t = true → ∀ u, u < 7 → zst s u = 3 → gi m (r + 6) u = zN (zbrk s u).1 ∧ gi m (r + 7) u = (zbrk s u).2.1 ∧ gi m (r + 8) u = zN (zbrk s u).2.2)
  ∧ (∀ k q, gi m (r + 11) 0 = zN k → k < 3000 → zpick (zsur s) k = some q → zsgt m (r + 11) P q)
def zCo (m : XM) (r : Nat) (s : zS) : Prop := gi m r 7 = zN (zopn s).length ∧ zstk m (r + 9) (zopn s) ∧ gi m r 15 = zN 0
def zCR (t : Bool) (m : XM) (r : Nat) (P : zP) (s : zS) : Prop := zSi P s ∧ zCr t m r P s ∧ zCo m r s
