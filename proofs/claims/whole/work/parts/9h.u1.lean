/-! ===== u: the two objects, side by side ===== -/
/-- a change: unit, place from, place to (none: turned) -/
abbrev zCh : Type := Nat × Nat × Option Nat
def zpl (f : Nat → Nat) (i j : Nat) : Nat → Nat := fun k => if k = j then f i else if i ≤ k ∧ k < j then f (k + 1) else if j < k ∧ k ≤ i then f (k - 1) else f k
def zshf (P : zP) (u i j : Nat) : zP := (P.1, P.2.1, P.2.2.1, zset (zplc P) u (zpl (zplc P u) i j), zon P)
def ztog (P : zP) (x : Nat) : zP := (P.1, P.2.1, P.2.2.1, zplc P, zset (zon P) x (!(zon P x)))
def zundo (P : zP) (e : zCh) : zP := match e.2.2 with
  | none => ztog P (12 * e.1 + zplc P e.1 e.2.1)
  | some j => zshf P e.1 j e.2.1
def zchk (P : zP) (e : zCh) : Prop := e.1 < zn P ∧ e.2.1 < zcnt P e.1 ∧ ∀ j, e.2.2 = some j → j < zcnt P e.1
/-- all that both show: the program, the tape, the fault's place, refusals, changes -/
abbrev zJ : Type := zP × (Nat × (Nat → Nat)) × Int32 × (Int32 × Int32) × List zCh
def jP (S : zJ) : zP := S.1
def jt (S : zJ) : Nat := S.2.1.1
def jb (S : zJ) : Nat → Nat := S.2.1.2
def jf (S : zJ) : Int32 := S.2.2.1
def jr0 (S : zJ) : Int32 := S.2.2.2.1.1
def jr1 (S : zJ) : Int32 := S.2.2.2.1.2
def jL (S : zJ) : List zCh := S.2.2.2.2
def js_r0 (S : zJ) : zJ := (jP S, (jt S, jb S), jf S, (jr0 S + 1, jr1 S), jL S)
def js_r1 (S : zJ) : zJ := (jP S, (jt S, jb S), jf S, (jr0 S, jr1 S + 1), jL S)
/-- names: each stands once in its unit -/
def znk (P : zP) (x : Nat) : Prop := zok P x ∧ (zknd P x = 0 ∨ zknd P x = 1 ∨ zknd P x = 4)
def znu (P : zP) : Prop := ∀ x y a, znk P x → znk P y → x / 12 = y / 12 → znam P x = some a → znam P y = some a → x = y
def jnm (m : XM) (c : Nat) (P : zP) : Prop := ∀ u a, u < zn P → a < 26 → (∀ x, znk P x → x / 12 = u → znam P x = some a → gi m (c + 10) (26 * u + a) = zN x) ∧ ((∀ x, znk P x → x / 12 = u → znam P x ≠ some a) → gi m (c + 10) (26 * u + a) = zM)
def zsm (f : Nat → Nat) : Nat → Nat
  | 0 => 0
  | n + 1 => zsm f n + f n
/-- places are told by a turn of all of them -/
def zps (P : zP) : Prop := ∀ u, u < zn P → ∀ g : Nat → Nat, zsm (fun i => g (zplc P u i)) (zcnt P u) = zsm g (zcnt P u)
theorem zsm_0 {f : Nat → Nat} : ∀ n, (∀ i, i < n → f i = 0) → zsm f n = 0
  | 0, _ => rfl
  | n + 1, h => by
    show zsm f n + f n = 0
    rw [zsm_0 n (fun i hi => h i (by omega)), h n (by omega)]
theorem zsm_ge {f : Nat → Nat} {j : Nat} : ∀ n, j < n → f j ≤ zsm f n
  | 0, h => by omega
  | n + 1, h => by
    show f j ≤ zsm f n + f n
    by_cases e : j = n
    · rw [e]; omega
    · have := zsm_ge (f := f) n (show j < n by omega); omega
theorem zsm_ext {f g : Nat → Nat} : ∀ n, (∀ i, i < n → f i = g i) → zsm f n = zsm g n
  | 0, _ => rfl
  | n + 1, h => by
    show zsm f n + f n = zsm g n + g n
    rw [zsm_ext n (fun i hi => h i (by omega)), h n (by omega)]
theorem zps_pm {P : zP} (h : zps P) : zpm P := fun u hu j hj => by
  apply Classical.byContradiction
  intro hn
  have h1 := h u hu (fun k => if k = j then 1 else 0)
  have h2 : zsm (fun i => (fun k => if k = j then 1 else 0) (zplc P u i)) (zcnt P u) = 0 := zsm_0 _ (fun i hi => if_neg (fun e => hn ⟨i, hi, e⟩))
  have h3 := zsm_ge (f := fun k => if k = j then 1 else 0) (zcnt P u) hj
  rw [h2] at h1
  simp only [if_true] at h3
  omega
/-- what else holds of a text that was told -/
def zxt (P : zP) : Prop := ∀ x, zok P x → (zknd P x = 1 ∨ zknd P x = 2 → znum P x = none) ∧ (zknd P x = 2 → ∀ d, zini P x = some d → d.2 = none) ∧ (zknd P x = 3 → ∃ d y, zini P x = some d ∧ d.2 = some y) ∧ (zknd P x = 0 ∨ zknd P x = 1 ∨ zknd P x = 4 → (znam P x).isSome) ∧ (zknd P x = 4 → znum P x = some ((zfun P x).length - 1))
def jW (P : zP) : Prop := zwf P ∧ zps P ∧ znu P ∧ zxt P
/-- lengths, references -/
def jN (N : Nat → Nat) : Prop := N 1 = 600 ∧ zUN N 3 ∧ (N 21 = 7 ∧ N 22 = 600 ∧ N 23 = 300 ∧ N 25 = 602 ∧ N 26 = 602 ∧ N 27 = 602) ∧ zUN N 28 ∧ (N 47 = 16 ∧ N 48 = 16 ∧ N 49 = 16) ∧ zRN N 50 ∧ zRN N 63 ∧ N 76 = 7 ∧ N 78 = 17496 ∧ vWN N ∧ yN N ∧ N 111 = 1
def jS (m : XM) (c d : Nat) : Prop := (c = 28 ∧ d = 3 ∨ c = 3 ∧ d = 28) ∧ (gr m 0 0 = some 1 ∧ gr m 0 2 = some 2 ∧ gr m 0 3 = some c ∧ gr m 0 4 = some 46 ∧ gr m 0 5 = some 50 ∧ gr m 0 7 = some 63 ∧ gr m 0 8 = some 76 ∧ gr m 0 9 = some 77 ∧ gr m 0 10 = some 79)
  ∧ (gr m 2 0 = some d ∧ gr m 2 1 = some 21 ∧ gr m 2 2 = some 22 ∧ gr m 2 3 = some 23 ∧ gr m 2 7 = some 25 ∧ gr m 2 8 = some 26 ∧ gr m 2 9 = some 27) ∧ (gr m 46 2 = some 47 ∧ gr m 46 3 = some 48 ∧ gr m 46 4 = some 49) ∧ zUr m 3 ∧ zUr m 28 ∧ (∃ c0, zRr m 50 c0) ∧ (∃ c0, zRr m 63 c0) ∧ (gr m 77 4 = some 63 ∧ gr m 77 6 = some 78) ∧ vWr m
def jU (m : XM) (c : Nat) (P : zP) : Prop := zCP m c P ∧ jnm m c P
def jPl (m : XM) (c : Nat) (P : zP) : Prop := (∃ p, gi m 50 16 = zN p ∧ p ≤ 10) ∧ (gi m 0 6 = zN 0 ∨ (gi m 0 6 = zN 1 ∧ zRr m 50 c ∧ zFin true m 50 P (zPlain P)))
def jAh (m : XM) : Prop := ∃ p, gi m 63 16 = zN p ∧ p ≤ 10
def jSe (m : XM) (P : zP) : Prop := gi m 77 0 = zN 0 ∨ (gi m 77 0 = zN 1 ∧ wF m (zFew P))
def jTp (m : XM) (S : zJ) : Prop := jt S ≤ 600 ∧ gi m 0 1 = zN (jt S) ∧ gi m 0 11 = jf S ∧ gi m 0 12 = jr0 S ∧ gi m 0 13 = jr1 S ∧ ∀ k, k < jt S → jb S k < 256 ∧ gi m 1 k = zN (jb S k)
/-- the class's latest changes -/
def jch (m : XM) (nx : Nat) : Nat → zP → List zCh → Prop
  | _, _, [] => True
  | t, P, e :: l => zchk P e ∧ gi m 47 ((nx + 15 - t) % 16) = zN e.1 ∧ gi m 48 ((nx + 15 - t) % 16) = zN e.2.1 ∧ gi m 49 ((nx + 15 - t) % 16) = zopt e.2.2 ∧ jch m nx (t + 1) (zundo P e) l
def jCg (m : XM) (S : zJ) : Prop := (jL S).length ≤ 16 ∧ gi m 46 0 = zN (jL S).length ∧ ∃ nx, nx < 16 ∧ gi m 46 1 = zN nx ∧ jch m nx 0 (jP S) (jL S)
def jC (N : Nat → Nat) (m : XM) (c d : Nat) (S : zJ) : Prop := jN N ∧ jS m c d ∧ jW (jP S) ∧ jU m c (jP S) ∧ jPl m c (jP S) ∧ jAh m ∧ jSe m (jP S) ∧ jTp m S ∧ jCg m S
/-- the reference's latest changes -/
def ych (m : XM) : zP → List zCh → Prop
  | _, [] => True
  | P, e :: l => gi m 91 l.length = zN e.1 ∧ gi m 92 l.length = (match e.2.2 with
      | none => zN (zmid P (12 * e.1 + zplc P e.1 e.2.1))
      | some _ => zN e.2.1) ∧ gi m 93 l.length = zopt e.2.2 ∧ ych m (zundo P e) l
def jM (N : Nat → Nat) (m : XM) (S : zJ) : Prop := jN N ∧ yR m ∧ jW (jP S) ∧ yMP m (jP S) ∧ (∃ p, gi m 85 34 = zN p ∧ p ≤ 10) ∧ gi m 85 41 = zN 0 ∧ (gi m 85 16 = zN 0 ∨ (gi m 85 16 = zN 1 ∧ yShow m (jP S) (zPlain (jP S))))
  ∧ (jt S ≤ 600 ∧ gi m 85 2 = zN (jt S) ∧ gi m 85 5 = jf S ∧ gi m 86 0 = jr0 S ∧ gi m 86 1 = jr1 S ∧ ∀ k, k < jt S → gi m 87 k = zN (jb S k)) ∧ (jL S).length ≤ 16 ∧ gi m 85 15 = zN (jL S).length ∧ ych m (jP S) (jL S)
/-- cells of the other one stay -/
def jfc (m m' : XM) : Prop := ∀ a k, 85 ≤ a → gi m' a k = gi m a k ∧ gr m' a k = gr m a k
def jfm (m m' : XM) : Prop := (∀ a k, a < 85 → gi m' a k = gi m a k ∧ gr m' a k = gr m a k ∧ gl m' a k = gl m a k) ∧ ∀ k, gl m' 111 k = gl m 111 k
theorem jfc_rf (m : XM) : jfc m m := fun _ _ _ => ⟨rfl, rfl⟩
theorem jfm_rf (m : XM) : jfm m m := ⟨fun _ _ _ => ⟨rfl, rfl, rfl⟩, fun _ => rfl⟩
theorem jfc_tr {m m1 m2 : XM} (h : jfc m m1) (g : jfc m1 m2) : jfc m m2 := fun a k q => ⟨(g a k q).1.trans (h a k q).1, (g a k q).2.trans (h a k q).2⟩
theorem jfm_tr {m m1 m2 : XM} (h : jfm m m1) (g : jfm m1 m2) : jfm m m2 := ⟨fun a k q => ⟨(g.1 a k q).1.trans (h.1 a k q).1, (g.1 a k q).2.1.trans (h.1 a k q).2.1, (g.1 a k q).2.2.trans (h.1 a k q).2.2⟩, fun k => (g.2 k).trans (h.2 k)⟩
theorem jfc_fr {lo hi : Nat} {m m' : XM} (hh : hi ≤ 85) (h : zfr lo hi m m') : jfc m m' := fun a k q => ⟨(h a (by omega)).1 k, (h a (by omega)).2.2 k⟩
theorem jfc_si {m m1 : XM} {a k : Nat} {v : Int32} (h : jfc m m1) (ha : a < 85) : jfc m (si m1 a k v) := fun b j q => by rw [gi_ne (by omega)]; exact h b j q
theorem jfc_sl {m m1 : XM} {a k : Nat} {v : Int64} (h : jfc m m1) : jfc m (sl m1 a k v) := fun b j q => h b j q
theorem jfm_si {m m1 : XM} {a k : Nat} {v : Int32} (h : jfm m m1) (ha : 85 ≤ a) : jfm m (si m1 a k v) := ⟨fun b j q => by rw [gi_ne (by omega)]; exact h.1 b j q, fun j => h.2 j⟩
section UA
variable {N : Nat → Nat} {m m' : XM} {c d : Nat} {P : zP} {S : zJ}
theorem jS_fr (h0 : ∀ a k, a < 85 → gr m' a k = gr m a k) (h : jS m c d) : jS m' c d := by
  obtain ⟨h1, h2, h3, h4, h5, h6, ⟨c0, h7⟩, ⟨c1, h8⟩, h9, h10⟩ := h
  refine ⟨h1, ?_, ?_, ?_, zUr_fr (fun a k _ _ => h0 a k (by omega)) h5, zUr_fr (fun a k _ _ => h0 a k (by omega)) h6, ⟨c0, ?_⟩, ⟨c1, ?_⟩, ?_, ?_⟩
  · simp (disch := omega) only [h0]; exact h2
  · simp (disch := omega) only [h0]; exact h3
  · simp (disch := omega) only [h0]; exact h4
  · unfold zRr at h7 ⊢; simp (disch := omega) only [h0]; exact h7
  · unfold zRr at h8 ⊢; simp (disch := omega) only [h0]; exact h8
  · simp (disch := omega) only [h0]; exact h9
  · unfold vWr at h10 ⊢; simp (disch := omega) only [h0]; exact h10
theorem jU_fr (h0 : ∀ a k, c ≤ a → a < c + 18 → gi m' a k = gi m a k) (h : jU m c P) : jU m' c P :=
  ⟨zCP_fr h0 h.1, fun u a hu ha => by rw [h0 _ _ (by omega) (by omega)]; exact h.2 u a hu ha⟩
theorem zFin_fr {t : Bool} {r : Nat} {q : Bool × zS} (h0 : ∀ a k, r ≤ a → a < r + 13 → gi m' a k = gi m a k) (h : zFin t m r P q) : zFin t m' r P q := by
  obtain ⟨hs, ⟨q1, q2, q3, q4, q5, q6, q7, q8, q9, q10, q11, q12⟩, h15, ho⟩ := h
  refine ⟨hs, ⟨fun u hu => ?_, fun x hx => ?_, fun x hx hs => ?_, ?_, zstk_fr (fun k => h0 _ _ (by omega) (by omega)) q5, ?_, ?_, ?_, ?_, ?_, fun ht u hu hs => ?_, fun k q hk hk' hq => ?_⟩, ?_, fun g => ?_⟩
  · rw [h0 _ _ (by omega) (by omega)]; exact q1 u hu
  · rw [h0 _ _ (by omega) (by omega)]; exact q2 x hx
  · rw [h0 _ _ (by omega) (by omega)]; exact q3 x hx hs
  · rw [h0 _ _ (by omega) (by omega)]; exact q4
  · rw [h0 _ _ (by omega) (by omega)]; exact q6
  · rw [h0 _ _ (by omega) (by omega)]; exact q7
  · rw [h0 _ _ (by omega) (by omega)]; exact q8
  · rw [h0 _ _ (by omega) (by omega)]; exact q9
  · rw [h0 _ _ (by omega) (by omega)]; exact q10
  · rw [h0 _ _ (by omega) (by omega), h0 _ _ (by omega) (by omega), h0 _ _ (by omega) (by omega)]; exact q11 ht u hu hs
  · rw [h0 _ _ (by omega) (by omega)] at hk
    exact zsgt_fr (fun k => h0 _ _ (by omega) (by omega)) (fun k => h0 _ _ (by omega) (by omega)) (q12 k q hk hk' hq)
  · rw [h0 _ _ (by omega) (by omega)]; exact h15
  · obtain ⟨⟨o1, o2, o3⟩, o4⟩ := ho g
    exact ⟨⟨by rw [h0 _ _ (by omega) (by omega)]; exact o1, zstk_fr (fun k => h0 _ _ (by omega) (by omega)) o2, by rw [h0 _ _ (by omega) (by omega)]; exact o3⟩, o4⟩
theorem jPl_fr (h0 : ∀ a k, 50 ≤ a → a < 63 → gi m' a k = gi m a k) (h1 : gi m' 0 6 = gi m 0 6) (h2 : ∀ a k, 50 ≤ a → a < 63 → gr m' a k = gr m a k) (h : jPl m c P) : jPl m' c P := by
  obtain ⟨⟨p, p1, p2⟩, h⟩ := h
  refine ⟨⟨p, by rw [h0 _ _ (by omega) (by omega)]; exact p1, p2⟩, ?_⟩
  rw [h1]
  rcases h with h | ⟨a1, a2, a3⟩
  · exact Or.inl h
  · refine Or.inr ⟨a1, ?_, zFin_fr (fun a k _ _ => h0 a k (by omega) (by omega)) a3⟩
    unfold zRr at a2 ⊢; simp (disch := omega) only [h2]; exact a2
theorem jSe_fr (h0 : ∀ k, gi m' 77 k = gi m 77 k) (h : jSe m P) : jSe m' P := by
  unfold jSe wF at h ⊢
  rw [h0, h0, h0, h0]; exact h
theorem jTp_fr (h0 : ∀ k, k = 1 ∨ k = 11 ∨ k = 12 ∨ k = 13 → gi m' 0 k = gi m 0 k) (h1 : ∀ k, gi m' 1 k = gi m 1 k) (h : jTp m S) : jTp m' S := by
  obtain ⟨a1, a2, a3, a4, a5, a6⟩ := h
  exact ⟨a1, by rw [h0 _ (by omega)]; exact a2, by rw [h0 _ (by omega)]; exact a3, by rw [h0 _ (by omega)]; exact a4, by rw [h0 _ (by omega)]; exact a5, fun k hk => by rw [h1]; exact a6 k hk⟩
theorem jch_fr {nx : Nat} (h0 : ∀ a k, 47 ≤ a → a < 50 → gi m' a k = gi m a k) : ∀ {l : List zCh} {t : Nat} {P : zP}, jch m nx t P l → jch m' nx t P l
  | [], _, _, _ => trivial
  | _ :: _, _, _, h => ⟨h.1, (h0 _ _ (by omega) (by omega)).trans h.2.1, (h0 _ _ (by omega) (by omega)).trans h.2.2.1, (h0 _ _ (by omega) (by omega)).trans h.2.2.2.1, jch_fr h0 h.2.2.2.2⟩
theorem jCg_fr (h0 : ∀ a k, 46 ≤ a → a < 50 → gi m' a k = gi m a k) (h : jCg m S) : jCg m' S := by
  obtain ⟨a1, a2, nx, a3, a4, a5⟩ := h
  exact ⟨a1, by rw [h0 _ _ (by omega) (by omega)]; exact a2, nx, a3, by rw [h0 _ _ (by omega) (by omega)]; exact a4, jch_fr (fun a k _ _ => h0 a k (by omega) (by omega)) a5⟩
theorem ych_fr (h0 : ∀ a k, 91 ≤ a → a < 94 → gi m' a k = gi m a k) : ∀ {l : List zCh} {P : zP}, ych m P l → ych m' P l
  | [], _, _ => trivial
  | _ :: _, _, h => ⟨(h0 _ _ (by omega) (by omega)).trans h.1, (h0 _ _ (by omega) (by omega)).trans h.2.1, (h0 _ _ (by omega) (by omega)).trans h.2.2.1, ych_fr h0 h.2.2.2⟩
theorem yShow_fr {q : Bool × zS} (h0 : ∀ a k, 94 ≤ a → a < 106 → gi m' a k = gi m a k) (h1 : ∀ k, 27 ≤ k → k < 42 → k ≠ 41 → gi m' 85 k = gi m 85 k) (h : yShow m P q) : yShow m' P q :=
  yFin_fr (fun a k q1 q2 => by rw [gi_ne (by omega), gi_ne (by omega)]; exact h0 a k q1 q2) (fun k q1 q2 => by
    by_cases e : k = 41
    · rw [e, gi_si, gi_si]
    · rw [gi_ne (by omega), gi_ne (by omega)]; exact h1 k q1 q2 e) h
/-- the class's part under a change of the reference's -/
theorem jC_m (h : jC N m c d S) (g : jfm m m') : jC N m' c d S := by
  obtain ⟨h1, h2, h3, h4, h5, ⟨p, h6, h6'⟩, h7, h8, h9⟩ := h
  have hc : c + 18 ≤ 85 := by have := h2.1; omega
  exact ⟨h1, jS_fr (fun a k q => (g.1 a k q).2.1) h2, h3, jU_fr (fun a k _ _ => (g.1 a k (by omega)).1) h4, jPl_fr (fun a k _ _ => (g.1 a k (by omega)).1) (g.1 _ _ (by omega)).1 (fun a k _ _ => (g.1 a k (by omega)).2.1) h5, ⟨p, by rw [(g.1 _ _ (by omega)).1]; exact h6, h6'⟩, jSe_fr (fun k => (g.1 _ _ (by omega)).1) h7, jTp_fr (fun k _ => (g.1 _ _ (by omega)).1) (fun k => (g.1 _ _ (by omega)).1) h8, jCg_fr (fun a k _ _ => (g.1 a k (by omega)).1) h9⟩
/-- the reference's part under a change of the class's -/
theorem jM_c (h : jM N m S) (g : jfc m m') : jM N m' S := by
  obtain ⟨h1, h2, h3, h4, ⟨p, h5, h5'⟩, h6, h7, ⟨k1, k2, k3, k4, k5, k6⟩, h9, h10, h11⟩ := h
  refine ⟨h1, yR_fr (fun k => (g 85 k (by omega)).2) h2, h3, yMP_fr (fun k => (g 88 k (by omega)).1) (fun k => (g 90 k (by omega)).1) h4, ⟨p, by rw [(g _ _ (by omega)).1]; exact h5, h5'⟩, by rw [(g _ _ (by omega)).1]; exact h6, ?_, ⟨k1, by rw [(g _ _ (by omega)).1]; exact k2, by rw [(g _ _ (by omega)).1]; exact k3, by rw [(g _ _ (by omega)).1]; exact k4, by rw [(g _ _ (by omega)).1]; exact k5, fun k hk => by rw [(g _ _ (by omega)).1]; exact k6 k hk⟩, h9, by rw [(g _ _ (by omega)).1]; exact h10, ych_fr (fun a k _ _ => (g a k (by omega)).1) h11⟩
  rw [(g _ _ (by omega)).1]
  rcases h7 with h | ⟨h, h'⟩
  · exact Or.inl h
  · exact Or.inr ⟨h, yShow_fr (fun a k _ _ => (g a k (by omega)).1) (fun k _ _ _ => (g _ _ (by omega)).1) h'⟩
theorem jM_U (h : jM N m S) : yU N m (jP S) := ⟨h.1.2.2.2.2.2.2.2.2.2.2.1, h.2.1, h.2.2.1.1, h.2.2.2.1⟩
/-- the class's part when only a run, the search or the web has changed -/
theorem jC_q (h : jC N m c d S) (hg : ∀ a k, a < 85 → gr m' a k = gr m a k) (h0 : ∀ a k, a < 50 → ¬ (a = 0 ∧ k = 6) → gi m' a k = gi m a k) (h5 : jPl m' c (jP S)) (h6 : jAh m') (h7 : jSe m' (jP S)) : jC N m' c d S := by
  obtain ⟨g1, g2, g3, g4, -, -, -, g8, g9⟩ := h
  have hc : c + 18 ≤ 50 := by have := g2.1; omega
  have hc0 : 0 < c := by have := g2.1; omega
  exact ⟨g1, jS_fr hg g2, g3, jU_fr (fun a k _ _ => h0 a k (by omega) (by omega)) g4, h5, h6, h7, jTp_fr (fun k _ => h0 _ _ (by omega) (by omega)) (fun k => h0 _ _ (by omega) (by omega)) g8, jCg_fr (fun a k _ _ => h0 a k (by omega) (by omega)) g9⟩
end UA
/-- an Int32 is below 0, or a small number -/
theorem zcase (x : Int32) : x < zN 0 ∨ ∃ u, u < 2147483648 ∧ x = zN u := by
  by_cases h : x < zN 0
  · exact Or.inl h
  · refine Or.inr ⟨x.toInt.toNat, ?_, ?_⟩
    · have := Int32.toInt_lt x
      omega
    · rw [Int32.lt_iff_toInt_lt] at h
      have e0 : (zN 0).toInt = 0 := by decide
      have h1 := Int32.toInt_lt x
      apply Int32.toInt_inj.1
      rw [zN_toInt (by omega)]
      omega
theorem zlt0 {u : Nat} (hu : u < 2147483648) : (zN u < zN 0) = False := by rw [zN_lt hu (by omega)]; exact propext ⟨fun h => by omega, fun h => h.elim⟩
