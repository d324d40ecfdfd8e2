/-! ===== t: all deeds so far ===== -/
def plen : List pD → Nat
  | [] => 0
  | D :: l => D.1.length + plen l
def pcs : List pD → List pK
  | [] => []
  | D :: l => D.1 ++ pcs l
def ptg (m : XM) (d k : Nat) : Option (Nat × Nat) → Prop
  | none => gi m (d + 17) k = zM
  | some q => gi m (d + 17) k = zN q.1 ∧ gi m 23 k = zN q.2
def pds (m : XM) (d : Nat) : Nat → Nat → List pD → Prop
  | _, _, [] => True
  | k, f, D :: l => gi m (d + 15) k = zN f ∧ gi m (d + 16) k = zN (f + D.1.length) ∧ pcod m d f D.1 ∧ ptg m d k D.2 ∧ pds m d (k + 1) (f + D.1.length) l
/-- what is set, of the other reader -/
def pacT (K : Nat → Int32) (a : Nat) (q : Nat × Nat) : Prop := K (530 + 4 * a) = zN (q.1 / 26) ∧ K (530 + 4 * a + 1) = zN (q.1 % 26) ∧ K (530 + 4 * a + 3) = zN q.2 ∧ q.1 < 182
def pafl (K : Nat → Int32) (na : Nat) (DL : List pD) : Prop := (∀ a, a < na → K (530 + 4 * a) ≠ zM → ∃ D ∈ DL, ∃ q, D.2 = some q ∧ pacT K a q) ∧ ∀ D ∈ DL, ∀ q, D.2 = some q → ∃ a, a < na ∧ pacT K a q
def pact (K : Nat → Int32) (hi a : Nat) (D : pD) : Prop := a < 220 ∧ (∃ f, K (530 + 4 * a + 2) = zN f ∧ pSm K (pTm K hi 9) f D.1) ∧ (D.2 = none → K (530 + 4 * a) = zM) ∧ ∀ q, D.2 = some q → pacT K a q
def psD : Nat → List pD → Nat → Prop
  | lo, [], hi => lo ≤ hi
  | lo, D :: l, hi => (∀ q, D.2 = some q → lo ≤ q.2) ∧ ∃ mi, (D.2 = none → pso lo D.1 mi) ∧ (∀ q, D.2 = some q → pso (q.2 + 1) D.1 mi) ∧ psD mi l hi
def pgd (D : pD) : Prop := pcw D.1 0 1 ∧ ∀ q, D.2 = some q → q.1 < 182
/-- all deeds of both -/
def jD (N : Nat → Nat) (b : Nat → Nat) (n d i : Nat) (DL : List pD) (nt na : Nat) (m w : XM) : Prop :=
  (gi m (d + 12) 3 = zN DL.length ∧ gi m (d + 12) 0 = zN (plen DL) ∧ pds m d 0 0 DL ∧ plen DL ≤ tzp b n i)
  ∧ (rN N w ∧ gi w 89 3 = zN nt ∧ gi w 89 2 = zN na ∧ 2 * nt ≤ tzp b n i ∧ pfl (gi w 89) 0 nt (pcs DL) ∧ pafl (gi w 89) na DL) ∧ psD 0 DL (tzp b n i) ∧ ∀ D ∈ DL, pgd D
section TP
variable {N : Nat → Nat} {b : Nat → Nat} {n d i nt na x : Nat} {m m' w w' : XM} {K K' : Nat → Int32} {DL : List pD}
theorem plen_ap : ∀ (l l' : List pD), plen (l ++ l') = plen l + plen l'
  | [], l' => by
    show plen l' = 0 + plen l'
    omega
  | D :: l, l' => by
    show D.1.length + plen (l ++ l') = D.1.length + plen l + plen l'
    rw [plen_ap l l']; omega
theorem pcs_ap : ∀ (l l' : List pD), pcs (l ++ l') = pcs l ++ pcs l'
  | [], _ => rfl
  | D :: l, l' => by
    show D.1 ++ pcs (l ++ l') = D.1 ++ pcs l ++ pcs l'
    rw [pcs_ap l l', List.append_assoc]
theorem pds_ap : ∀ (l l' : List pD) (k f : Nat), pds m d k f l → pds m d (k + l.length) (f + plen l) l' → pds m d k f (l ++ l')
  | [], _, _, _, _, h => h
  | D :: l, l', k, f, h, h' => ⟨h.1, h.2.1, h.2.2.1, h.2.2.2.1, pds_ap l l' (k + 1) (f + D.1.length) h.2.2.2.2 (by
    rw [show k + 1 + l.length = k + (l.length + 1) by omega, show f + D.1.length + plen l = f + (D.1.length + plen l) by omega]; exact h')⟩
theorem pds_fr : ∀ (l : List pD) (k f : Nat), (∀ a j, a = d + 15 ∨ a = d + 16 ∨ a = d + 17 ∨ a = 23 → k ≤ j → j < k + l.length → gi m' a j = gi m a j) → (∀ a j, a = d + 13 ∨ a = d + 14 ∨ a = 22 → f ≤ j → j < f + plen l → gi m' a j = gi m a j) → pds m d k f l → pds m' d k f l
  | [], _, _, _, _, _ => trivial
  | D :: l, k, f, h0, h1, h => by
    have hp : plen (D :: l) = D.1.length + plen l := rfl
    have hl : (D :: l).length = l.length + 1 := rfl
    refine ⟨(h0 _ _ (by omega) (by omega) (by omega)).trans h.1, (h0 _ _ (by omega) (by omega) (by omega)).trans h.2.1, pcod_fr _ _ (fun a j q1 q2 q3 => h1 a j q1 q2 (by omega)) h.2.2.1, ?_, pds_fr l (k + 1) (f + D.1.length) (fun a j q1 q2 q3 => h0 a j q1 (by omega) (by omega)) (fun a j q1 q2 q3 => h1 a j q1 (by omega) (by omega)) h.2.2.2.2⟩
    have h4 := h.2.2.2.1
    cases hD : D.2 with
    | none => rw [hD] at h4; exact (h0 _ _ (by omega) (by omega) (by omega)).trans h4
    | some q => rw [hD] at h4; exact ⟨(h0 _ _ (by omega) (by omega) (by omega)).trans h4.1, (h0 _ _ (by omega) (by omega) (by omega)).trans h4.2⟩
theorem pacT_fr {a : Nat} {q : Nat × Nat} (h0 : ∀ o, o < 4 → K' (530 + 4 * a + o) = K (530 + 4 * a + o)) (h : pacT K a q) : pacT K' a q := by
  have := h0 0 (by omega)
  rw [Nat.add_zero] at this
  exact ⟨this.trans h.1, (h0 1 (by omega)).trans h.2.1, (h0 3 (by omega)).trans h.2.2.1, h.2.2.2⟩
theorem pafl_fr (h0 : ∀ a o, a < na → o < 4 → K' (530 + 4 * a + o) = K (530 + 4 * a + o)) (h : pafl K na DL) : pafl K' na DL := by
  refine ⟨fun a ha hn => ?_, fun D hD q hq => ?_⟩
  · have := h0 a 0 ha (by omega)
    rw [Nat.add_zero] at this
    rw [this] at hn
    obtain ⟨D, q1, q, q2, q3⟩ := h.1 a ha hn
    exact ⟨D, q1, q, q2, pacT_fr (fun o ho => h0 a o ha ho) q3⟩
  · obtain ⟨a, q1, q2⟩ := h.2 D hD q hq
    exact ⟨a, q1, pacT_fr (fun o ho => h0 a o q1 ho) q2⟩
theorem pact_fr {hi hi' a : Nat} {D : pD} (hh : hi ≤ hi') (h0 : ∀ o, o < 4 → K' (530 + 4 * a + o) = K (530 + 4 * a + o)) (h1 : ∀ k, 1410 ≤ k → k < 1410 + 6 * hi → K' k = K k) (h : pact K hi a D) : pact K' hi' a D := by
  obtain ⟨q1, ⟨f, q2, q3⟩, q4, q5⟩ := h
  have := h0 0 (by omega)
  rw [Nat.add_zero] at this
  exact ⟨q1, ⟨f, (h0 2 (by omega)).trans q2, pSm_fr hh (fun k r1 r2 => h1 k (by omega) r2) q3⟩, fun e => this.trans (q4 e), fun q e => pacT_fr h0 (q5 q e)⟩
theorem psD_wk : ∀ (l : List pD) {lo lo' hi hi' : Nat}, lo' ≤ lo → hi ≤ hi' → psD lo l hi → psD lo' l hi'
  | [], lo, lo', hi, hi', h1, h2, h => by
    have h3 : lo ≤ hi := h
    show lo' ≤ hi'
    omega
  | D :: l, lo, lo', hi, hi', h1, h2, h => by
    obtain ⟨q1, mi, q2, q3, q4⟩ := h
    exact ⟨fun q e => by have := q1 q e; omega, mi, fun e => pso_wk _ h1 (Nat.le_refl _) (q2 e), q3, psD_wk l (Nat.le_refl _) h2 q4⟩
theorem psD_ap : ∀ (l l' : List pD) {lo mi hi : Nat}, psD lo l mi → psD mi l' hi → psD lo (l ++ l') hi
  | [], l', lo, mi, hi, h, h' => psD_wk l' h (Nat.le_refl _) h'
  | D :: l, l', lo, mi, hi, h, h' => by
    obtain ⟨q1, m0, q2, q3, q4⟩ := h
    exact ⟨q1, m0, q2, q3, psD_ap l l' q4 h'⟩
theorem jD_mo {i' : Nat} (h : jD N b n d i DL nt na m w) (hi : tzp b n i ≤ tzp b n i') (hm : ∀ a k, (d + 12 ≤ a ∧ a < d + 18) ∨ a = 22 ∨ a = 23 → gi m' a k = gi m a k) (hw : ∀ k, gi w' 89 k = gi w 89 k) (hg : ∀ a k, gr w' a k = gr w a k) : jD N b n d i' DL nt na m' w' := by
  obtain ⟨⟨h1, h2, h3, h4⟩, ⟨g1, g2, g3, g4, g5, g6⟩, h5, h6⟩ := h
  have e : gi w' 89 = gi w 89 := funext hw
  exact ⟨⟨by rw [hm _ _ (by omega)]; exact h1, by rw [hm _ _ (by omega)]; exact h2, pds_fr _ _ _ (fun a j q _ _ => hm a j (by omega)) (fun a j q _ _ => hm a j (by omega)) h3, by omega⟩, ⟨rN_g g1 hg, by rw [e]; exact g2, by rw [e]; exact g3, by omega, by rw [e]; exact g5, by rw [e]; exact g6⟩, psD_wk _ (Nat.le_refl _) hi h5, h6⟩
/-- the sum of a faulted text -/
theorem r_sum_d {f p : Nat} (h : rX f p w) : ∃ v w', fX9_sum N 85 w = some (v, w') ∧ rX f p w' ∧ rE w w' := by
  have hX := zXF
  obtain ⟨F, hF⟩ : ∃ F, XF = F + 1 := ⟨XF - 1, by omega⟩
  have h' : rX f p (si w 85 17 (zN 0)) := ⟨by rw [gi_ne (by omega)]; exact h.1, by rw [gi_ne (by omega)]; exact h.2.1, h.2.2⟩
  refine ⟨zM, si w 85 17 (zN 0), ?_, h', rE_si (rE_rf w) (by omega)⟩
  unfold fX9_sum
  simp only [zv, zN_lit]
  rw [r_gS]
  unfold fX9_sumOn
  show (xca (xca (gX9_term N 39 0 85 43 (si w 85 17 (zN 0))) fun v2 m1 => fX9_sumOn_9 N (fun t q x0 m0 => gX9_term N 39 t q x0 m0) XF 85 v2 v2 m1) fun v3 m2 => some (v3, m2)) = _
  rw [r_gT]
  unfold fX9_term
  rw [r_dead h', zca]
  simp only [zN_lit, if_true, zneg, zca]
  rw [hF, fX9_sumOn_9, zv, r_dead h', zca]
  simp only [zN_lit, if_true, zca]
/-- an act is put behind the others -/
def racc (w : XM) (na : Nat) (u a f p : Int32) : XM := si (si (si (si (si w 89 (530 + 4 * na) u) 89 (530 + 4 * na + 1) a) 89 (530 + 4 * na + 2) f) 89 (530 + 4 * na + 3) p) 89 2 (zN (na + 1))
theorem r_act (h : rN N w) (h2 : gi w 89 2 = zN na) (hn : na < 220) (u a f p : Int32) : fX9_act N 85 u a f p w = some (zN na, racc w na u a f p) := by
  obtain ⟨h1, h3⟩ := h
  unfold fX9_act
  simp (disch := omega) only [zgr h3, zgr_si, zN_lit, zv, zald, h2, zN_mul, zN_add, zast, gi_ne, gi_si, zN_sub, Nat.add_sub_cancel]
  rfl
theorem racc_o {u a f p : Int32} : gi (racc w na u a f p) 89 (530 + 4 * na) = u ∧ gi (racc w na u a f p) 89 (530 + 4 * na + 1) = a ∧ gi (racc w na u a f p) 89 (530 + 4 * na + 2) = f ∧ gi (racc w na u a f p) 89 (530 + 4 * na + 3) = p ∧ gi (racc w na u a f p) 89 2 = zN (na + 1) := by
  unfold racc
  refine ⟨?_, ?_, ?_, ?_, gi_si _ _ _ _⟩
  · rw [gi_ne (by omega), gi_ne (by omega), gi_ne (by omega), gi_ne (by omega), gi_si]
  · rw [gi_ne (by omega), gi_ne (by omega), gi_ne (by omega), gi_si]
  · rw [gi_ne (by omega), gi_ne (by omega), gi_si]
  · rw [gi_ne (by omega), gi_si]
theorem racc_n {u a f p : Int32} {z k : Nat} (hk : ¬ (z = 89 ∧ (k = 2 ∨ 530 + 4 * na ≤ k ∧ k < 530 + 4 * na + 4))) : gi (racc w na u a f p) z k = gi w z k := by
  unfold racc
  rw [gi_ne (by omega), gi_ne (by omega), gi_ne (by omega), gi_ne (by omega), gi_ne (by omega)]
theorem racc_S {u a f p : Int32} (h : rS N b n i w) : rS N b n i (racc w na u a f p) := rS_w (w' := racc w na u a f p) h (fun _ _ => rfl) (fun k _ => racc_n (by omega)) (fun k => racc_n (by omega))
theorem racc_D {u a f p : Int32} (hn : na < 220) : rD nt na w (racc w na u a f p) := ⟨fun z k q1 q2 => racc_n (by omega), fun _ _ => rfl, fun _ _ => rfl⟩
/-- a deed comes behind the others, of both: without a target (o = none: no act; else its act) -/
theorem jD_nw {D : pD} {k na' : Nat} {i' : Nat} (hd : d = 3 ∨ d = 28) (h : jD N b n d i DL nt na m w) (hi : tzp b n i ≤ tzp b n i')
    (c1 : gi m' (d + 12) 3 = zN (DL.length + 1)) (c2 : gi m' (d + 12) 0 = zN (plen DL + D.1.length)) (c3 : pcod m' d (plen DL) D.1) (c4 : gi m' (d + 15) DL.length = zN (plen DL)) (c5 : gi m' (d + 16) DL.length = zN (plen DL + D.1.length)) (c6 : ptg m' d DL.length D.2) (c7 : cD d (plen DL) DL.length x m m') (c8 : plen DL + D.1.length ≤ tzp b n i')
    (r1 : gi w' 89 3 = zN (nt + k)) (r2 : gi w' 89 2 = zN na') (r3 : 2 * (nt + k) ≤ tzp b n i') (r4 : pfl (gi w' 89) nt (nt + k) D.1) (r5 : rD nt na w w') (r6 : na ≤ na') (r7 : ∀ a, na ≤ a → a < na' → gi w' 89 (530 + 4 * a) ≠ zM → ∃ q, D.2 = some q ∧ pacT (gi w' 89) a q) (r8 : ∀ q, D.2 = some q → ∃ a, a < na' ∧ pacT (gi w' 89) a q) (hna : na ≤ 220) (hnt : nt ≤ 400)
    (s1 : psD (tzp b n i) [D] (tzp b n i')) (s2 : pgd D) : jD N b n d i' (DL ++ [D]) (nt + k) na' m' w' := by
  obtain ⟨⟨h1, h2, h3, h4⟩, ⟨g1, g2, g3, g4, g5, g6⟩, h5, h6⟩ := h
  have hpl : plen [D] = D.1.length := rfl
  refine ⟨⟨by rw [List.length_append]; exact c1, by rw [plen_ap, hpl]; exact c2, pds_ap _ _ _ _ (pds_fr _ _ _ (fun a j q1 q2 q3 => ?_) (fun a j q1 q2 q3 => ?_) h3) ?_, by rw [plen_ap, hpl]; exact c8⟩, ⟨rN_g g1 r5.2.1, r1, r2, r3, ?_, ?_, ?_⟩, psD_ap _ _ h5 s1, fun E hE => ?_⟩
  · exact c7.1 _ _ (by omega) (by omega) (by omega) (by omega) (by omega)
  · exact c7.1 _ _ (by omega) (by omega) (by omega) (by omega) (by omega)
  · rw [Nat.zero_add, Nat.zero_add]
    exact ⟨c4, c5, c3, c6, trivial⟩
  · rw [pcs_ap]
    refine pfl_ap (Nat.zero_le _) (by omega) (pfl_fr (fun t o q1 q2 q3 => r5.1 _ _ (by omega) (by omega)) g5) ?_
    show pfl _ _ _ (D.1 ++ [])
    rw [List.append_nil]; exact r4
  · intro a ha hn
    by_cases e : a < na
    · have hk : ∀ o, o < 4 → gi w' 89 (530 + 4 * a + o) = gi w 89 (530 + 4 * a + o) := fun o ho => r5.1 _ _ (by omega) (by omega)
      obtain ⟨E, q1, q, q2, q3⟩ := g6.1 a e (by have := hk 0 (by omega); rw [Nat.add_zero] at this; rw [← this]; exact hn)
      exact ⟨E, List.mem_append_left _ q1, q, q2, pacT_fr hk q3⟩
    · obtain ⟨q, q1, q2⟩ := r7 a (by omega) ha hn
      exact ⟨D, List.mem_append_right _ (List.mem_cons_self ..), q, q1, q2⟩
  · intro E hE q hq
    rcases List.mem_append.1 hE with e | e
    · obtain ⟨a, q1, q2⟩ := g6.2 E e q hq
      exact ⟨a, by omega, pacT_fr (fun o ho => r5.1 _ _ (by omega) (by omega)) q2⟩
    · have e' : E = D := by simpa using e
      rw [e'] at hq
      exact r8 q hq
  · rcases List.mem_append.1 hE with e | e
    · exact h6 E e
    · have e' : E = D := by simpa using e
      rw [e']; exact s2
end TP
