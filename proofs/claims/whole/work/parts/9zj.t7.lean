/-! ===== t: sums as they are told ===== -/
abbrev pK : Type := Nat × Nat × Nat
/-- codes from place f on, with places -/
def pcod (m : XM) (d : Nat) : Nat → List pK → Prop
  | _, [] => True
  | f, q :: l => gi m (d + 13) f = zN q.1 ∧ gi m (d + 14) f = zN q.2.1 ∧ gi m 22 f = zN q.2.2 ∧ pcod m d (f + 1) l
/-- a term that is no bracket -/
def pleaf (K : Nat → Int32) (t : Nat) (q : pK) : Prop :=
  (K (1410 + 6 * t + 1) = zN 0 ∧ q.1 = 0 ∧ K (1410 + 6 * t + 2) = zN q.2.1) ∨ (K (1410 + 6 * t + 1) = zN 3 ∧ q.1 = 3)
  ∨ ((q.1 = 1 ∨ q.1 = 2) ∧ K (1410 + 6 * t + 1) = zN q.1 ∧ K (1410 + 6 * t + 2) = zN (q.2.1 / 26) ∧ K (1410 + 6 * t + 3) = zN (q.2.1 % 26) ∧ K (1410 + 6 * t + 5) = zN q.2.2 ∧ q.2.1 < 182)
def pCh (K : Nat → Int32) (T : Nat → List pK → Prop) : List Nat → Nat → List pK → Prop
  | [], p, l => K (1410 + 6 * p + 4) = zM ∧ l = []
  | t :: ts, p, l => p < t ∧ K (1410 + 6 * p + 4) = zN t ∧ ∃ lt o l', T t lt ∧ 4 ≤ o ∧ o ≤ 6 ∧ K (1410 + 6 * t) = zN (ysign o) ∧ l = lt ++ (o, 0, 0) :: l' ∧ pCh K T ts t l'
def pSm (K : Nat → Int32) (T : Nat → List pK → Prop) (f : Nat) (l : List pK) : Prop := ∃ l0 ts lr, T f l0 ∧ ts.length < 400 ∧ pCh K T ts f lr ∧ l = l0 ++ lr
/-- a term; all of it lies below hi -/
def pTm (K : Nat → Int32) (hi : Nat) : Nat → Nat → List pK → Prop
  | 0, _, _ => False
  | n + 1, t, l => t < hi ∧ ((∃ q, l = [q] ∧ pleaf K t q) ∨ (K (1410 + 6 * t + 1) = zN 4 ∧ ∃ f, K (1410 + 6 * t + 2) = zN f ∧ t < f ∧ pSm K (pTm K hi n) f l))
/-- what is read and called, of both -/
def pfl (K : Nat → Int32) (lo hi : Nat) (l : List pK) : Prop := (∀ t, lo ≤ t → t < hi → K (1410 + 6 * t + 1) = zN 1 ∨ K (1410 + 6 * t + 1) = zN 2 → ∃ q ∈ l, (q.1 = 1 ∨ q.1 = 2) ∧ pleaf K t q) ∧ ∀ q ∈ l, q.1 = 1 ∨ q.1 = 2 → ∃ t, lo ≤ t ∧ t < hi ∧ pleaf K t q
/-- places grow -/
def pso : Nat → List pK → Nat → Prop
  | lo, [], hi => lo ≤ hi
  | lo, q :: l, hi => (q.1 = 1 ∨ q.1 = 2 → lo ≤ q.2.2) ∧ pso (if q.1 = 1 ∨ q.1 = 2 then q.2.2 + 1 else lo) l hi
/-- how the pile of numbers stands -/
def pcw : List pK → Nat → Nat → Prop
  | [], s, e => s = e
  | q :: l, s, e => if 4 ≤ q.1 then q.1 ≤ 6 ∧ 2 ≤ s ∧ pcw l (s - 1) e else q.2.1 < 1000 ∧ s < 8 ∧ pcw l (s + 1) e
section TH
variable {K K' : Nat → Int32} {m m' : XM} {d : Nat}
theorem pcod_ap : ∀ (l l' : List pK) (f : Nat), pcod m d f l → pcod m d (f + l.length) l' → pcod m d f (l ++ l')
  | [], _, _, _, h => h
  | _ :: l, l', f, h, h' => ⟨h.1, h.2.1, h.2.2.1, pcod_ap l l' (f + 1) h.2.2.2 (by rw [show f + 1 + l.length = f + (l.length + 1) by omega]; exact h')⟩
theorem pcod_fr : ∀ (l : List pK) (f : Nat), (∀ a k, a = d + 13 ∨ a = d + 14 ∨ a = 22 → f ≤ k → k < f + l.length → gi m' a k = gi m a k) → pcod m d f l → pcod m' d f l
  | [], _, _, _ => trivial
  | q :: l, f, h0, h => ⟨(h0 _ _ (by omega) (by omega) (by simp)).trans h.1, (h0 _ _ (by omega) (by omega) (by simp)).trans h.2.1, (h0 _ _ (by omega) (by omega) (by simp)).trans h.2.2.1, pcod_fr l (f + 1) (fun a k q1 q2 q3 => h0 a k q1 (by omega) (by simp; omega)) h.2.2.2⟩
theorem pleaf_fr {t : Nat} {q : pK} (h0 : ∀ o, o = 1 ∨ o = 2 ∨ o = 3 ∨ o = 5 → K' (1410 + 6 * t + o) = K (1410 + 6 * t + o)) (h : pleaf K t q) : pleaf K' t q := by
  unfold pleaf at h ⊢
  rw [h0 1 (by omega), h0 2 (by omega), h0 3 (by omega), h0 5 (by omega)]
  exact h
theorem pfl_fr {lo hi : Nat} {l : List pK} (h0 : ∀ t o, lo ≤ t → t < hi → o = 1 ∨ o = 2 ∨ o = 3 ∨ o = 5 → K' (1410 + 6 * t + o) = K (1410 + 6 * t + o)) (h : pfl K lo hi l) : pfl K' lo hi l := by
  refine ⟨fun t h1 h2 h3 => ?_, fun q h1 h2 => ?_⟩
  · rw [h0 t 1 h1 h2 (by omega)] at h3
    obtain ⟨q, q1, q2, q3⟩ := h.1 t h1 h2 h3
    exact ⟨q, q1, q2, pleaf_fr (fun o ho => h0 t o h1 h2 ho) q3⟩
  · obtain ⟨t, q1, q2, q3⟩ := h.2 q h1 h2
    exact ⟨t, q1, q2, pleaf_fr (fun o ho => h0 t o q1 q2 ho) q3⟩
theorem pfl_ap {lo mi hi : Nat} {l l' : List pK} (h1 : lo ≤ mi) (h2 : mi ≤ hi) (h : pfl K lo mi l) (h' : pfl K mi hi l') : pfl K lo hi (l ++ l') := by
  refine ⟨fun t q1 q2 q3 => ?_, fun q q1 q2 => ?_⟩
  · by_cases e : t < mi
    · obtain ⟨q, r1, r2⟩ := h.1 t q1 e q3
      exact ⟨q, List.mem_append_left _ r1, r2⟩
    · obtain ⟨q, r1, r2⟩ := h'.1 t (by omega) q2 q3
      exact ⟨q, List.mem_append_right _ r1, r2⟩
  · rcases List.mem_append.1 q1 with e | e
    · obtain ⟨t, r1, r2, r3⟩ := h.2 q e q2
      exact ⟨t, r1, by omega, r3⟩
    · obtain ⟨t, r1, r2, r3⟩ := h'.2 q e q2
      exact ⟨t, by omega, r2, r3⟩
theorem pfl_nil {lo : Nat} : pfl K lo lo [] := ⟨fun t h1 h2 => by omega, fun q h => by simp at h⟩
theorem pfl_op {lo hi : Nat} {l : List pK} {o : pK} (ho : 4 ≤ o.1) (h : pfl K lo hi l) : pfl K lo hi (o :: l) := by
  refine ⟨fun t h1 h2 h3 => ?_, fun q h1 h2 => ?_⟩
  · obtain ⟨q, q1, q2⟩ := h.1 t h1 h2 h3
    exact ⟨q, List.mem_cons_of_mem _ q1, q2⟩
  · rcases List.mem_cons.1 h1 with e | e
    · rw [e] at h2; omega
    · exact h.2 q e h2
theorem pso_wk : ∀ (l : List pK) {lo lo' hi hi' : Nat}, lo' ≤ lo → hi ≤ hi' → pso lo l hi → pso lo' l hi'
  | [], _, _, _, _, h1, h2, h => by
    have : _ ≤ _ := h
    show _ ≤ _
    omega
  | q :: l, lo, lo', hi, hi', h1, h2, h => by
    refine ⟨fun r => by have := h.1 r; omega, ?_⟩
    by_cases r : q.1 = 1 ∨ q.1 = 2
    · have := h.2
      rw [if_pos r] at this ⊢
      exact pso_wk l (Nat.le_refl _) h2 this
    · have := h.2
      rw [if_neg r] at this ⊢
      exact pso_wk l h1 h2 this
theorem pso_le : ∀ (l : List pK) {lo hi : Nat}, pso lo l hi → lo ≤ hi
  | [], _, _, h => h
  | q :: l, lo, hi, h => by
    have h2 := pso_le l h.2
    by_cases r : q.1 = 1 ∨ q.1 = 2
    · rw [if_pos r] at h2
      have := h.1 r
      omega
    · rw [if_neg r] at h2
      exact h2
theorem pso_ap : ∀ (l l' : List pK) {lo mi hi : Nat}, pso lo l mi → pso mi l' hi → pso lo (l ++ l') hi
  | [], l', _, _, _, h, h' => pso_wk l' h (Nat.le_refl _) h'
  | q :: l, l', _, _, _, h, h' => ⟨h.1, pso_ap l l' h.2 h'⟩
theorem pso_op {l : List pK} {lo hi : Nat} {o : pK} (ho : 4 ≤ o.1) (h : pso lo l hi) : pso lo (o :: l) hi :=
  ⟨fun r => by omega, by rw [if_neg (by omega)]; exact h⟩
theorem pcw_ap : ∀ (l l' : List pK) {s e r : Nat}, pcw l s e → pcw l' e r → pcw (l ++ l') s r
  | [], _, s, e, r, h, h' => by
    have h1 : s = e := h
    rw [h1]
    exact h'
  | q :: l, l', s, e, r, h, h' => by
    have h1 : if 4 ≤ q.1 then q.1 ≤ 6 ∧ 2 ≤ s ∧ pcw l (s - 1) e else q.2.1 < 1000 ∧ s < 8 ∧ pcw l (s + 1) e := h
    show if 4 ≤ q.1 then q.1 ≤ 6 ∧ 2 ≤ s ∧ pcw (l ++ l') (s - 1) r else q.2.1 < 1000 ∧ s < 8 ∧ pcw (l ++ l') (s + 1) r
    by_cases e4 : 4 ≤ q.1
    · rw [if_pos e4] at h1 ⊢
      exact ⟨h1.1, h1.2.1, pcw_ap l l' h1.2.2 h'⟩
    · rw [if_neg e4] at h1 ⊢
      exact ⟨h1.1, h1.2.1, pcw_ap l l' h1.2.2 h'⟩
theorem pCh_fr {T T' : Nat → List pK → Prop} {t0 hi : Nat} (h0 : ∀ k, 1410 + 6 * t0 ≤ k → k < 1410 + 6 * hi → K' k = K k) (h1 : ∀ t l, t0 ≤ t → T t l → t < hi ∧ T' t l) : ∀ (ts : List Nat) (p : Nat) (l : List pK), t0 ≤ p → p < hi → pCh K T ts p l → pCh K' T' ts p l
  | [], p, l, hp, hq, h => ⟨(h0 _ (by omega) (by omega)).trans h.1, h.2⟩
  | t :: ts, p, l, hp, hq, h => by
    obtain ⟨q1, q2, lt, o, l', q3, q4, q5, q6, q7, q8⟩ := h
    obtain ⟨r1, r2⟩ := h1 t lt (by omega) q3
    exact ⟨q1, (h0 _ (by omega) (by omega)).trans q2, lt, o, l', r2, q4, q5, (h0 _ (by omega) (by omega)).trans q6, q7, pCh_fr h0 h1 ts t l' (by omega) r1 q8⟩
theorem pTm_hi {hi : Nat} : ∀ {n t : Nat} {l : List pK}, pTm K hi n t l → t < hi
  | 0, _, _, h => h.elim
  | _ + 1, _, _, h => h.1
theorem pTm_fr {hi hi' : Nat} (hh : hi ≤ hi') : ∀ (n t : Nat) (l : List pK), (∀ k, 1410 + 6 * t ≤ k → k < 1410 + 6 * hi → k ≠ 1410 + 6 * t + 4 → K' k = K k) → pTm K hi n t l → pTm K' hi' n t l
  | 0, _, _, _, h => h
  | n + 1, t, l, h0, h => by
    obtain ⟨h1, h2⟩ := h
    refine ⟨by omega, ?_⟩
    rcases h2 with ⟨q, q1, q2⟩ | ⟨q1, f, q2, q3, l0, ts, lr, q4, q5, q6, q7⟩
    · exact Or.inl ⟨q, q1, pleaf_fr (fun o ho => h0 _ (by omega) (by omega) (by omega)) q2⟩
    · have hf := pTm_hi q4
      have hT : ∀ t' l', t + 1 ≤ t' → pTm K hi n t' l' → t' < hi ∧ pTm K' hi' n t' l' := fun t' l' r1 r2 => ⟨pTm_hi r2, pTm_fr hh n t' l' (fun k s1 s2 s3 => h0 k (by omega) s2 (by omega)) r2⟩
      exact Or.inr ⟨(h0 _ (by omega) (by omega) (by omega)).trans q1, f, (h0 _ (by omega) (by omega) (by omega)).trans q2, q3, l0, ts, lr, (hT f l0 (by omega) q4).2, q5, pCh_fr (t0 := t + 1) (hi := hi) (fun k s1 s2 => h0 k (by omega) s2 (by omega)) hT ts f lr (by omega) hf q6, q7⟩
end TH
/-- frames: codes from nc on; terms from nt on, and x -/
def cT (d nc : Nat) (m m' : XM) : Prop := (∀ a k, ¬ (a = 2 ∧ 10 ≤ k) → ¬ (a = d + 12 ∧ k = 0) → ¬ ((a = d + 13 ∨ a = d + 14 ∨ a = 22) ∧ nc ≤ k) → gi m' a k = gi m a k) ∧ (∀ a k, gr m' a k = gr m a k) ∧ ∀ a k, gl m' a k = gl m a k
def rT (nt x : Nat) (m m' : XM) : Prop := (∀ a k, ¬ (a = 85 ∧ (k = 4 ∨ k = 6 ∨ k = 7 ∨ k = 17)) → ¬ (a = 89 ∧ (k = 3 ∨ k = x ∨ 1410 + 6 * nt ≤ k ∧ k < 3810)) → gi m' a k = gi m a k) ∧ (∀ a k, gr m' a k = gr m a k) ∧ ∀ a k, gl m' a k = gl m a k
def cO (d : Nat) (m m' : XM) : Prop := (∀ a k, ¬ (a = 2 ∧ 10 ≤ k) → ¬ (21 ≤ a ∧ a ≤ 23) → ¬ (d ≤ a ∧ a < d + 18) → gi m' a k = gi m a k) ∧ (∀ a k, gr m' a k = gr m a k) ∧ ∀ a k, gl m' a k = gl m a k
def rO (m m' : XM) : Prop := (∀ a k, ¬ (a = 85 ∧ (k = 4 ∨ k = 6 ∨ k = 7 ∨ k = 17)) → ¬ a = 89 → gi m' a k = gi m a k) ∧ (∀ a k, gr m' a k = gr m a k) ∧ ∀ a k, gl m' a k = gl m a k
section TI
variable {m m1 m2 : XM} {d nc nc1 nt nt1 x y : Nat}
theorem cF_T (h : cF m m1) : cT d nc m m1 := ⟨fun a k q _ _ => h.1 a k q, h.2⟩
theorem cT_O (h : cT d nc m m1) : cO d m m1 := ⟨fun a k q1 q2 q3 => h.1 a k q1 (by omega) (by omega), h.2⟩
theorem cF_O (h : cF m m1) : cO d m m1 := ⟨fun a k q _ _ => h.1 a k q, h.2⟩
theorem rE_T (h : rE m m1) : rT nt x m m1 := ⟨fun a k q _ => h.1 a k q, h.2⟩
theorem rT_O (h : rT nt x m m1) : rO m m1 := ⟨fun a k q1 q2 => h.1 a k q1 (by omega), h.2⟩
theorem rE_O (h : rE m m1) : rO m m1 := ⟨fun a k q1 _ => h.1 a k q1, h.2⟩
theorem cT_tr (h : cT d nc m m1) (g : cT d nc1 m1 m2) (hn : nc ≤ nc1) : cT d nc m m2 := ⟨fun a k q1 q2 q3 => (g.1 a k q1 q2 (by omega)).trans (h.1 a k q1 q2 q3), fun a k => (g.2.1 a k).trans (h.2.1 a k), fun a k => (g.2.2 a k).trans (h.2.2 a k)⟩
theorem rT_tr (h : rT nt x m m1) (g : rT nt1 y m1 m2) (hn : nt ≤ nt1) (hy : y = x ∨ y = 3 ∨ 1410 + 6 * nt ≤ y ∧ y < 3810) : rT nt x m m2 := ⟨fun a k q1 q2 => (g.1 a k q1 (by omega)).trans (h.1 a k q1 q2), fun a k => (g.2.1 a k).trans (h.2.1 a k), fun a k => (g.2.2 a k).trans (h.2.2 a k)⟩
theorem cO_tr (h : cO d m m1) (g : cO d m1 m2) : cO d m m2 := ⟨fun a k q1 q2 q3 => (g.1 a k q1 q2 q3).trans (h.1 a k q1 q2 q3), fun a k => (g.2.1 a k).trans (h.2.1 a k), fun a k => (g.2.2 a k).trans (h.2.2 a k)⟩
theorem rO_tr (h : rO m m1) (g : rO m1 m2) : rO m m2 := ⟨fun a k q1 q2 => (g.1 a k q1 q2).trans (h.1 a k q1 q2), fun a k => (g.2.1 a k).trans (h.2.1 a k), fun a k => (g.2.2 a k).trans (h.2.2 a k)⟩
theorem rO_rf (m : XM) : rO m m := ⟨fun _ _ _ _ => rfl, fun _ _ => rfl, fun _ _ => rfl⟩
theorem cO_rf (m : XM) : cO d m m := ⟨fun _ _ _ _ _ => rfl, fun _ _ => rfl, fun _ _ => rfl⟩
theorem rO_si {k : Nat} {v : Int32} (h : rO m m1) : rO m (si m1 89 k v) := rO_tr h ⟨fun a j _ q => gi_ne (by omega), fun _ _ => rfl, fun _ _ => rfl⟩
/-- a code is put behind the others -/
def cput (d : Nat) (m : XM) (nc k o p : Nat) : XM := si (si (si (si m (d + 13) nc (zN k)) (d + 14) nc (zN o)) 22 nc (zN p)) (d + 12) 0 (zN (nc + 1))
theorem c_cput {N : Nat → Nat} (h : cR N d m) (hc : gi m (d + 12) 0 = zN nc) (hn : nc < 600) (k o p : Nat) : fX1_putCode N 2 (zN k) (zN o) (zN p) m = some (cput d m nc k o p) := by
  obtain ⟨h0, ⟨-, -, -, -, -, -, -, -, -, -, -, n13, n14, -⟩, ⟨-, n22, -⟩, ⟨-, -, -, -, -, -, -, -, -, -, -, g13, s1, s2, -⟩, g0, -, g2, -⟩ := h
  unfold fX1_putCode
  simp (disch := omega) only [zgr g0, zgr g13, zv, hc, zN_lit, zN_le]
  rw [if_neg (show ¬ 600 ≤ nc by omega)]
  simp (disch := omega) only [zgr s1, zgr_si, zast, gi_ne, hc, zgr s2, zgr g2, zN_add]
  rfl
theorem cput_T {k o p : Nat} : cT d nc m (cput d m nc k o p) := ⟨fun a j q1 q2 q3 => by unfold cput; rw [gi_ne (by omega), gi_ne (by omega), gi_ne (by omega), gi_ne (by omega)], fun _ _ => rfl, fun _ _ => rfl⟩
theorem cput_c {k o p : Nat} : gi (cput d m nc k o p) (d + 12) 0 = zN (nc + 1) := gi_si _ _ _ _
theorem cput_p {k o p : Nat} (hd : d = 3 ∨ d = 28) : pcod (cput d m nc k o p) d nc [(k, o, p)] := by
  unfold cput
  refine ⟨?_, ?_, ?_, trivial⟩
  · rw [gi_ne (by omega), gi_ne (by omega), gi_ne (by omega), gi_si]
  · rw [gi_ne (by omega), gi_ne (by omega), gi_si]
  · rw [gi_ne (by omega), gi_si]
theorem cput_S {N : Nat → Nat} {b : Nat → Nat} {n i k o p : Nat} (h : cS N b n d i m) : cS N b n d i (cput d m nc k o p) := by
  have hd := h.1.1
  exact cS_g (m' := cput d m nc k o p) h (fun _ _ => rfl) (fun a j q => by unfold cput; rw [gi_ne (by omega), gi_ne (by omega), gi_ne (by omega), gi_ne (by omega)]) (by unfold cput; rw [gi_ne (by omega), gi_ne (by omega), gi_ne (by omega), gi_ne (by omega)]; exact h.2.2.2.2.2.2) h.2.2.2.2.2.1
end TI
