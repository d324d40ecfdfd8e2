/-! ===== y: the reference's memory shows a program, and the state of a run ===== -/
def zbase (P : zP) : Nat → Nat
  | 0 => 0
  | u + 1 => zbase P u + zcnt P u
/-- the reference's number of a member -/
def zmid (P : zP) (x : Nat) : Nat := zbase P (x / 12) + x % 12
/-- a term that is no bracket -/
def yleaf (K : Nat → Int32) (P : zP) (t : Nat) (q : zCode) : Prop :=
  (K (1410 + 6 * t + 1) = zN 0 ∧ q.1 = 0 ∧ K (1410 + 6 * t + 2) = zN q.2) ∨ (K (1410 + 6 * t + 1) = zN 3 ∧ q.1 = 3)
  ∨ (K (1410 + 6 * t + 1) = zN 1 ∧ q.1 = 0 ∧ ∃ x, zok P x ∧ zknd P x = 0 ∧ K (1410 + 6 * t + 3) = zN (zmid P x) ∧ znum P x = some q.2)
  ∨ (K (1410 + 6 * t + 1) = zN q.1 ∧ (q.1 = 1 ∨ q.1 = 2) ∧ K (1410 + 6 * t + 2) = zN (q.2 / 12) ∧ K (1410 + 6 * t + 3) = zN (zmid P q.2))
def ysign (o : Nat) : Nat := if o = 4 then 43 else if o = 5 then 45 else 42
/-- terms hung behind p -/
def yCh (K : Nat → Int32) (T : Nat → List zCode → Prop) : List Nat → Nat → List zCode → Prop
  | [], p, l => K (1410 + 6 * p + 4) = zM ∧ l = []
  | t :: ts, p, l => p < t ∧ K (1410 + 6 * p + 4) = zN t ∧ ∃ lt o l', T t lt ∧ 4 ≤ o ∧ o ≤ 6 ∧ K (1410 + 6 * t) = zN (ysign o) ∧ l = lt ++ (o, 0) :: l' ∧ yCh K T ts t l'
def ySm (K : Nat → Int32) (T : Nat → List zCode → Prop) (f : Nat) (l : List zCode) : Prop := ∃ l0 ts lr, T f l0 ∧ ts.length < 400 ∧ yCh K T ts f lr ∧ l = l0 ++ lr
/-- a term, brackets in it n deep at most -/
def yTm (K : Nat → Int32) (P : zP) : Nat → Nat → List zCode → Prop
  | 0, _, _ => False
  | n + 1, t, l => t < 400 ∧ ((∃ q, l = [q] ∧ yleaf K P t q) ∨ (K (1410 + 6 * t + 1) = zN 4 ∧ ∃ f, K (1410 + 6 * t + 2) = zN f ∧ ySm K (yTm K P n) f l))
abbrev ySum (K : Nat → Int32) (P : zP) (f : Nat) (l : List zCode) : Prop := ySm K (yTm K P 9) f l
def yact (K : Nat → Int32) (P : zP) (a : Nat) (d : zDeed) : Prop := a < 220 ∧ (∃ f, K (530 + 4 * a + 2) = zN f ∧ ySum K P f d.1) ∧ (d.2 = none → K (530 + 4 * a) = zM) ∧ ∀ x, d.2 = some x → K (530 + 4 * a) = zN (x / 12) ∧ K (530 + 4 * a + 1) = zN (zmid P x)
def yacts (K : Nat → Int32) (P : zP) : Nat → List zDeed → Prop
  | _, [] => True
  | a, d :: l => yact K P a d ∧ yacts K P (a + 1) l
def yMem (K : Nat → Int32) (P : zP) (x p : Nat) : Prop :=
  K p = zN (zknd P x) ∧ (zknd P x ≠ 3 → K (p + 1) = zopt (znam P x))
  ∧ (zknd P x = 0 → K (p + 2) = zopt (znum P x) ∧ (znum P x).isSome ∧ zini P x = none)
  ∧ (zknd P x = 1 → (zini P x = none → K (p + 2) = zM) ∧ ∀ d, zini P x = some d → ∃ f, K (p + 2) = zN f ∧ ySum K P f d.1)
  ∧ (zknd P x = 2 ∨ zknd P x = 3 → ∃ a d, K (p + 2) = zN a ∧ zini P x = some d ∧ yact K P a d)
  ∧ (zknd P x = 4 → ∃ f a l g, K (p + 2) = zN f ∧ ySum K P f g ∧ K (p + 3) = zN l.length ∧ K (p + 4) = zN a ∧ l.length ≤ 4 ∧ yacts K P a l ∧ zfun P x = l ++ [(g, none)])
def yMP (m : XM) (P : zP) : Prop :=
  gi m 88 0 = zN (zn P) ∧ gi m 88 1 = zN (zbase P (zn P)) ∧ gi m 88 4 = zN (zstp P).length
  ∧ (∀ u, u < zn P → gi m 88 (5 + 15 * u) = zN (zlet P u) ∧ gi m 88 (5 + 15 * u + 1) = zopt (zabv P u) ∧ gi m 88 (5 + 15 * u + 2) = zN (zcnt P u) ∧ ∀ i, i < zcnt P u → gi m 88 (5 + 15 * u + 3 + i) = zN (zbase P u + zplc P u i))
  ∧ (∀ x, zok P x → yMem (gi m 88) P x (110 + 5 * zmid P x) ∧ gi m 90 (zmid P x) = (if zon P x then zN 0 else zN 1))
  ∧ (∀ k d, (zstp P)[k]? = some d → ∃ a, gi m 88 (3810 + k) = zN a ∧ yact (gi m 88) P a d)
def yN (N : Nat → Nat) : Prop := N 86 = 3 ∧ N 87 = 600 ∧ N 88 = 3820 ∧ N 89 = 3820 ∧ N 90 = 84 ∧ N 91 = 16 ∧ N 92 = 16 ∧ N 93 = 16 ∧ N 94 = 7 ∧ N 95 = 7 ∧ N 96 = 84 ∧ N 97 = 7 ∧ N 98 = 7 ∧ N 99 = 7 ∧ N 100 = 21 ∧ N 101 = 21 ∧ N 102 = 84 ∧ N 103 = 18006 ∧ N 104 = 60020 ∧ N 105 = 60020 ∧ N 106 = 84 ∧ N 107 = 7 ∧ N 108 = 7 ∧ N 109 = 84 ∧ N 110 = 7
def yR (m : XM) : Prop := gr m 85 1 = some 86 ∧ gr m 85 8 = some 87 ∧ gr m 85 9 = some 88 ∧ gr m 85 10 = some 89 ∧ gr m 85 11 = some 90 ∧ gr m 85 12 = some 91 ∧ gr m 85 13 = some 92 ∧ gr m 85 14 = some 93 ∧ gr m 85 18 = some 94 ∧ gr m 85 19 = some 95 ∧ gr m 85 20 = some 96 ∧ gr m 85 21 = some 97 ∧ gr m 85 22 = some 98 ∧ gr m 85 23 = some 99 ∧ gr m 85 24 = some 100 ∧ gr m 85 25 = some 101 ∧ gr m 85 26 = some 102 ∧ gr m 85 38 = some 103 ∧ gr m 85 39 = some 104 ∧ gr m 85 40 = some 105 ∧ gr m 85 42 = some 106 ∧ gr m 85 43 = some 107 ∧ gr m 85 44 = some 108 ∧ gr m 85 45 = some 109 ∧ gr m 85 46 = some 110
def yU (N : Nat → Nat) (m : XM) (P : zP) : Prop := yN N ∧ yR m ∧ zwf P ∧ yMP m P
/-- only what a run changes has changed -/
def yfq (m m' : XM) : Prop := (∀ a k, a < 85 ∨ (85 < a ∧ a < 94) ∨ 106 ≤ a → gi m' a k = gi m a k) ∧ (∀ k, k < 27 ∨ 38 ≤ k → gi m' 85 k = gi m 85 k) ∧ (∀ a k, gl m' a k = gl m a k) ∧ ∀ a k, gr m' a k = gr m a k
theorem yfq_rf (m : XM) : yfq m m := ⟨fun _ _ _ => rfl, fun _ _ => rfl, fun _ _ => rfl, fun _ _ => rfl⟩
theorem yfq_tr {m m1 m2 : XM} (h : yfq m m1) (g : yfq m1 m2) : yfq m m2 := ⟨fun a k q => (g.1 a k q).trans (h.1 a k q), fun k q => (g.2.1 k q).trans (h.2.1 k q), fun a k => (g.2.2.1 a k).trans (h.2.2.1 a k), fun a k => (g.2.2.2 a k).trans (h.2.2.2 a k)⟩
theorem yfq_si {m m1 : XM} {a k : Nat} {v : Int32} (h : yfq m m1) (ha : (94 ≤ a ∧ a < 106) ∨ (a = 85 ∧ 27 ≤ k ∧ k < 38) := by omega) : yfq m (si m1 a k v) :=
  ⟨fun b j q => by rw [gi_ne (by omega)]; exact h.1 b j q, fun j q => by rw [gi_ne (by omega)]; exact h.2.1 j q, fun b j => h.2.2.1 b j, fun b j => h.2.2.2 b j⟩
theorem yMP_fr {m m' : XM} {P : zP} (h0 : ∀ k, gi m' 88 k = gi m 88 k) (h1 : ∀ k, gi m' 90 k = gi m 90 k) (h : yMP m P) : yMP m' P := by
  have e0 : gi m' 88 = gi m 88 := funext h0
  have e1 : gi m' 90 = gi m 90 := funext h1
  unfold yMP at h ⊢
  rw [e0, e1]
  exact h
theorem yR_fr {m m' : XM} (h0 : ∀ k, gr m' 85 k = gr m 85 k) (h : yR m) : yR m' := by
  unfold yR at h ⊢
  simp only [h0]
  exact h
theorem yU_q {N : Nat → Nat} {m m' : XM} {P : zP} (h : yU N m P) (g : yfq m m') : yU N m' P :=
  ⟨h.1, yR_fr (fun k => g.2.2.2 85 k) h.2.1, h.2.2.1, yMP_fr (fun k => g.1 88 k (by omega)) (fun k => g.1 90 k (by omega)) h.2.2.2⟩
theorem zbase_le (P : zP) (hw : zwf P) : ∀ u, u ≤ zn P → zbase P u ≤ 12 * u
  | 0, _ => Nat.le_refl _
  | u + 1, h => by
    have h1 := zbase_le P hw u (by omega)
    have h2 := (hw.2.1 u (by omega)).1
    show zbase P u + zcnt P u ≤ _
    omega
theorem zmid_lt {P : zP} (hw : zwf P) {x : Nat} (hx : zok P x) : zmid P x < 84 := by
  have h1 := zbase_le P hw (x / 12) (Nat.le_of_lt hx.1)
  have h2 := zok_84 hw hx
  unfold zmid
  omega
theorem zbase_mono (P : zP) {u : Nat} : ∀ v, u ≤ v → zbase P u ≤ zbase P v
  | 0, h => by rw [show u = 0 by omega]; exact Nat.le_refl _
  | v + 1, h => by
    by_cases e : u = v + 1
    · rw [e]; exact Nat.le_refl _
    · have := zbase_mono P v (show u ≤ v by omega)
      show _ ≤ zbase P v + zcnt P v
      omega
theorem zmid_inj {P : zP} {x y : Nat} (hx : zok P x) (hy : zok P y) (h : zmid P x = zmid P y) : x = y := by
  have hx2 := hx.2
  have hy2 := hy.2
  unfold zmid at h
  have key : ∀ u v, u < v → zbase P u + zcnt P u ≤ zbase P v := fun u v huv => zbase_mono P v (show u + 1 ≤ v by omega)
  have hd : x / 12 = y / 12 := by
    by_cases e1 : x / 12 < y / 12
    · have := key _ _ e1; omega
    · by_cases e2 : y / 12 < x / 12
      · have := key _ _ e2; omega
      · omega
  rw [hd] at h
  omega
theorem zmid_plc {P : zP} (hw : zwf P) {u i : Nat} (hu : u < zn P) (hi : i < zcnt P u) : zmid P (12 * u + zplc P u i) = zbase P u + zplc P u i := by
  have h1 := (hw.2.1 u hu).2.2.2 i hi
  have h2 := (hw.2.1 u hu).1
  unfold zmid
  rw [show (12 * u + zplc P u i) / 12 = u by omega, show (12 * u + zplc P u i) % 12 = zplc P u i by omega]
/-- what is open: units and what of them -/
def ysto (m : XM) (a b o : Nat) : List Nat → Prop
  | [] => True
  | x :: l => gi m a (o + l.length) = zN (x / 100) ∧ gi m b (o + l.length) = zN (x % 100) ∧ ysto m a b o l
theorem ysto_fr {m m' : XM} {a b o : Nat} : ∀ {l : List Nat}, (∀ k, k < l.length → gi m' a (o + k) = gi m a (o + k) ∧ gi m' b (o + k) = gi m b (o + k)) → ysto m a b o l → ysto m' a b o l
  | [], _, _ => trivial
  | _ :: l, h0, h => ⟨(h0 _ (by simp)).1.trans h.1, (h0 _ (by simp)).2.trans h.2.1, ysto_fr (fun k hk => h0 k (by simp; omega)) h.2.2⟩
theorem ysto_cp {m m' : XM} {a b o a' b' o' : Nat} : ∀ {l : List Nat}, (∀ k, k < l.length → gi m' a' (o' + k) = gi m a (o + k) ∧ gi m' b' (o' + k) = gi m b (o + k)) → ysto m a b o l → ysto m' a' b' o' l
  | [], _, _ => trivial
  | _ :: l, h0, h => ⟨(h0 _ (by simp)).1.trans h.1, (h0 _ (by simp)).2.trans h.2.1, ysto_cp (fun k hk => h0 k (by simp; omega)) h.2.2⟩
/-- the surprises as they are kept -/
def yrec (m : XM) (P : zP) (i : Nat) (q : zRec) : Prop := gi m 103 (6 * i) = zN (q.1 / 12) ∧ gi m 103 (6 * i + 1) = zopt (znam P q.1) ∧ gi m 103 (6 * i + 2) = q.2.1 ∧ gi m 103 (6 * i + 3) = zN q.2.2.1 ∧ gi m 103 (6 * i + 4) = zN q.2.2.2.1.length ∧ gi m 103 (6 * i + 5) = zN q.2.2.2.2 ∧ ysto m 104 105 (20 * i) q.2.2.2.1 ∧ q.2.2.2.1.length ≤ 20
def ysur (m : XM) (P : zP) : List zRec → Prop
  | [] => True
  | q :: l => yrec m P l.length q ∧ ysur m P l
theorem yrec_fr {m m' : XM} {P : zP} {i : Nat} {q : zRec} (h0 : ∀ k, k < 6 * i + 6 → gi m' 103 k = gi m 103 k) (h1 : ∀ k, k < 20 * i + 20 → gi m' 104 k = gi m 104 k ∧ gi m' 105 k = gi m 105 k) (h : yrec m P i q) : yrec m' P i q := by
  obtain ⟨q1, q2, q3, q4, q5, q6, q7, q8⟩ := h
  exact ⟨(h0 _ (by omega)).trans q1, (h0 _ (by omega)).trans q2, (h0 _ (by omega)).trans q3, (h0 _ (by omega)).trans q4, (h0 _ (by omega)).trans q5, (h0 _ (by omega)).trans q6, ysto_fr (fun k hk => h1 _ (by omega)) q7, q8⟩
theorem ysur_fr {m m' : XM} {P : zP} : ∀ {l : List zRec}, (∀ k, k < 6 * l.length → gi m' 103 k = gi m 103 k) → (∀ k, k < 20 * l.length → gi m' 104 k = gi m 104 k ∧ gi m' 105 k = gi m 105 k) → ysur m P l → ysur m' P l
  | [], _, _, _ => trivial
  | q :: l, h0, h1, h => ⟨yrec_fr (fun k hk => h0 k (by simp; omega)) (fun k hk => h1 k (by simp; omega)) h.1, ysur_fr (fun k hk => h0 k (by simp; omega)) (fun k hk => h1 k (by simp; omega)) h.2⟩
/-- the reference's run shows the state s (b: surprises are kept) -/
def yMr (b : Bool) (m : XM) (P : zP) (s : zS) : Prop :=
  (∀ u, u < 7 → gi m 94 u = zN (zst s u)) ∧ (∀ x, zok P x → gi m 96 (zmid P x) = zval s x)
  ∧ (∀ x, zok P x → (zst s (x / 12) = 1 → gi m 102 (zmid P x) = (if zmk s x then zN 1 else zN 0)) ∧ (zst s (x / 12) = 0 → gi m 102 (zmid P x) = zN 0))
  ∧ gi m 85 27 = zN (zbeg s).length ∧ zstk m 95 (zbeg s)
  ∧ gi m 85 29 = zN (zwk s) ∧ gi m 85 31 = zN (zsur s).length ∧ gi m 85 32 = zN (zlos s) ∧ gi m 85 33 = zN (zfs s) ∧ gi m 85 34 = zN (zsp s)
  ∧ (∀ u, u < 7 → (zst s u = 3 → gi m 97 u = zN (zbrk s u).1 ∧ gi m 98 u = (zbrk s u).2.1 ∧ gi m 99 u = zN (zbrk s u).2.2) ∧ (zst s u ≠ 3 → gi m 97 u = zM ∧ gi m 98 u = zM ∧ gi m 99 u = zM))
  ∧ gi m 85 41 = (if b then zN 1 else zN 0) ∧ (b = true → ysur m P (zsur s))
def yMo (m : XM) (s : zS) : Prop := gi m 85 28 = zN (zopn s).length ∧ ysto m 100 101 0 (zopn s)
/-- the failure under way -/
def yMf (m : XM) (s : zS) : Prop := gi m 85 35 = zN (zfl s).1 ∧ gi m 85 36 = (zfl s).2.1 ∧ gi m 85 37 = zN (zfl s).2.2 ∧ (((zfl s).1 = 1 ∧ (zfl s).2.1 = zM) ∨ (zfl s).1 = 2)
def yMR (b : Bool) (m : XM) (P : zP) (s : zS) : Prop := zSi P s ∧ yMr b m P s ∧ yMo m s ∧ gi m 85 30 = zN 0
