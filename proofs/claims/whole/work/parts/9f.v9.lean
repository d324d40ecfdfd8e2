/-! ===== v: the order that breaks fewest ===== -/
def zmn (ok : Nat → Bool) (g : Nat → Nat) : Nat → Nat → Nat → Nat
  | 0, _, a => a
  | d + 1, u, a => zmn ok g d (u + 1) (if ok u then (if g u < a then g u else a) else a)
def zfi (ok : Nat → Bool) (g : Nat → Nat) (t : Nat) : Nat → Nat → Nat
  | 0, _ => 0
  | d + 1, u => if ok u = true ∧ g u = t then u else zfi ok g t d (u + 1)
def zfr0 (A u : Nat) : Bool := decide (A / 2 ^ u % 2 = 0)
/-- the fewest that k more break, A being ahead; and the order -/
noncomputable def zF (P : zP) : Nat → Nat → Nat
  | 0, _ => 0
  | k + 1, A => zmn (zfr0 A) (fun u => zco P u A + zF P k (A + 2 ^ u)) (zn P) 0 49
noncomputable def zfo (P : zP) (k A : Nat) : Nat := zfi (zfr0 A) (fun u => zco P u A + zF P k (A + 2 ^ u)) (zF P (k + 1) A) (zn P) 0
noncomputable def zO (P : zP) : Nat → Nat → List Nat
  | 0, _ => []
  | k + 1, A => zfo P k A :: zO P k (A + 2 ^ zfo P k A)
theorem zmn_le (ok : Nat → Bool) (g : Nat → Nat) : ∀ (d u a : Nat), zmn ok g d u a ≤ a
  | 0, _, _ => Nat.le_refl _
  | d + 1, u, a => by
    refine Nat.le_trans (zmn_le ok g d (u + 1) _) ?_
    split
    · split <;> omega
    · omega
theorem zmn_lb (ok : Nat → Bool) (g : Nat → Nat) : ∀ (d u a w : Nat), u ≤ w → w < u + d → ok w = true → zmn ok g d u a ≤ g w
  | 0, u, a, w, h1, h2, _ => by omega
  | d + 1, u, a, w, h1, h2, hw => by
    show zmn ok g d (u + 1) _ ≤ g w
    by_cases e : w = u
    · subst e
      refine Nat.le_trans (zmn_le ok g d (w + 1) _) ?_
      rw [if_pos hw]
      split <;> omega
    · exact zmn_lb ok g d (u + 1) _ w (by omega) (by omega) hw
theorem zmn_at (ok : Nat → Bool) (g : Nat → Nat) : ∀ (d u a : Nat), zmn ok g d u a = a ∨ ∃ w, u ≤ w ∧ w < u + d ∧ ok w = true ∧ zmn ok g d u a = g w
  | 0, _, _ => Or.inl rfl
  | d + 1, u, a => by
    show zmn ok g d (u + 1) _ = a ∨ ∃ w, u ≤ w ∧ w < u + (d + 1) ∧ ok w = true ∧ zmn ok g d (u + 1) _ = g w
    rcases zmn_at ok g d (u + 1) (if ok u then (if g u < a then g u else a) else a) with h | ⟨w, h1, h2, h3, h4⟩
    · rw [h]
      by_cases e : ok u = true
      · rw [if_pos e]
        by_cases e2 : g u < a
        · rw [if_pos e2]; exact Or.inr ⟨u, Nat.le_refl _, by omega, e, rfl⟩
        · rw [if_neg e2]; exact Or.inl rfl
      · rw [if_neg e]; exact Or.inl rfl
    · exact Or.inr ⟨w, by omega, by omega, h3, h4⟩
theorem zfi_at (ok : Nat → Bool) (g : Nat → Nat) (t : Nat) : ∀ (d u w : Nat), u ≤ w → w < u + d → ok w = true → g w = t → (∀ x, u ≤ x → x < w → ok x = true → g x ≠ t) → zfi ok g t d u = w
  | 0, u, w, h1, h2, _, _, _ => by omega
  | d + 1, u, w, h1, h2, h3, h4, h5 => by
    show (if ok u = true ∧ g u = t then u else zfi ok g t d (u + 1)) = w
    by_cases e : w = u
    · subst e; rw [if_pos ⟨h3, h4⟩]
    · rw [if_neg (fun h => h5 u (Nat.le_refl _) (by omega) h.1 h.2)]
      exact zfi_at ok g t d (u + 1) w (by omega) (by omega) h3 h4 (fun x q1 q2 => h5 x (by omega) q2)
theorem zfi_mem (ok : Nat → Bool) (g : Nat → Nat) (t : Nat) : ∀ (d u w : Nat), u ≤ w → w < u + d → ok w = true → g w = t → ok (zfi ok g t d u) = true ∧ g (zfi ok g t d u) = t ∧ zfi ok g t d u < u + d
  | 0, u, w, h1, h2, _, _ => by omega
  | d + 1, u, w, h1, h2, h3, h4 => by
    show ok (if ok u = true ∧ g u = t then u else zfi ok g t d (u + 1)) = true ∧ g (if ok u = true ∧ g u = t then u else zfi ok g t d (u + 1)) = t ∧ (if ok u = true ∧ g u = t then u else zfi ok g t d (u + 1)) < u + (d + 1)
    by_cases e : ok u = true ∧ g u = t
    · rw [if_pos e]; exact ⟨e.1, e.2, by omega⟩
    · rw [if_neg e]
      have hne : w ≠ u := fun q => e ⟨by rw [← q]; exact h3, by rw [← q]; exact h4⟩
      have := zfi_mem ok g t d (u + 1) w (by omega) (by omega) h3 h4
      exact ⟨this.1, this.2.1, by omega⟩
theorem zF_le (P : zP) : ∀ k A, zF P k A ≤ 49
  | 0, _ => by show 0 ≤ 49; omega
  | k + 1, A => zmn_le _ _ _ _ _
theorem zF_7 {P : zP} (hw : zwf P) : ∀ k A, A < 2 ^ zn P → zpc A + k = zn P → zF P k A ≤ 7 * k
  | 0, _, _, _ => by show 0 ≤ 0; omega
  | k + 1, A, hA, hk => by
    have hz := hw.1
    obtain ⟨u, u1, u2⟩ := wb_ex (zn P) (by omega) A hA (by omega)
    have h1 : zF P (k + 1) A ≤ zco P u A + zF P k (A + 2 ^ u) := zmn_lb _ _ _ _ _ u (by omega) (by omega) (decide_eq_true u2)
    have h2 := zF_7 hw k (A + 2 ^ u) (wb_lt (zn P) (by omega) A hA u u1 u2) (by
      have := wb_pc A (by have := (zpow_128 hw).1; omega) u (by omega) u2
      omega)
    have h3 := zco_le P u A
    omega
/-- the best next one -/
theorem zfo_ok {P : zP} (hw : zwf P) {k A : Nat} (hA : A < 2 ^ zn P) (hk : zpc A + (k + 1) = zn P) : zfo P k A < zn P ∧ A / 2 ^ zfo P k A % 2 = 0 ∧ zco P (zfo P k A) A + zF P k (A + 2 ^ zfo P k A) = zF P (k + 1) A := by
  have hz := hw.1
  obtain ⟨u, u1, u2⟩ := wb_ex (zn P) (by omega) A hA (by omega)
  have hle := zF_7 hw k (A + 2 ^ u) (wb_lt (zn P) (by omega) A hA u u1 u2) (by
      have := wb_pc A (by have := (zpow_128 hw).1; omega) u (by omega) u2
      omega)
  have hc := zco_le P u A
  have hlb : zF P (k + 1) A ≤ zco P u A + zF P k (A + 2 ^ u) := zmn_lb _ _ _ _ _ u (by omega) (by omega) (decide_eq_true u2)
  have hatt : ∃ w, 0 ≤ w ∧ w < 0 + zn P ∧ zfr0 A w = true ∧ zco P w A + zF P k (A + 2 ^ w) = zF P (k + 1) A := by
    rcases zmn_at (zfr0 A) (fun u => zco P u A + zF P k (A + 2 ^ u)) (zn P) 0 49 with h | ⟨w, h1, h2, h3, h4⟩
    · have h' : zF P (k + 1) A = 49 := h
      refine ⟨u, by omega, by omega, decide_eq_true u2, ?_⟩
      omega
    · exact ⟨w, h1, h2, h3, h4.symm⟩
  obtain ⟨w, w1, w2, w3, w4⟩ := hatt
  have := zfi_mem (zfr0 A) (fun u => zco P u A + zF P k (A + 2 ^ u)) (zF P (k + 1) A) (zn P) 0 w w1 w2 w3 w4
  exact ⟨by have := this.2.2; show zfi _ _ _ _ _ < _; omega, of_decide_eq_true this.1, this.2.1⟩
/-- orders one after another -/
noncomputable def lst (P : zP) (st : Nat × Int32) (us : List Nat) : Nat × Int32 := if zbk P us 0 < st.1 then (zbk P us 0, zN (yord us 0)) else st
noncomputable def lfold (P : zP) (st : Nat × Int32) (L : List (List Nat)) : Nat × Int32 := L.foldl (lst P) st
theorem zbk_app (P : zP) (l : List Nat) : ∀ (us : List Nat) (A : Nat), zbk P (us ++ l) A = zbk P us A + zbk P l (us.foldl (fun a u => a + 2 ^ u) A)
  | [], A => by show zbk P l A = 0 + zbk P l A; omega
  | u :: us, A => by
    show zco P u A + zbk P (us ++ l) (A + 2 ^ u) = zco P u A + zbk P us (A + 2 ^ u) + _
    rw [zbk_app P l us (A + 2 ^ u)]
    show _ = zco P u A + zbk P us (A + 2 ^ u) + zbk P l (us.foldl (fun a u => a + 2 ^ u) (A + 2 ^ u))
    omega
theorem lfold_zC {P : zP} (hw : zwf P) : ∀ (k A : Nat) (us : List Nat) (st : Nat × Int32), A < 2 ^ zn P → zpc A + k = zn P → us.foldl (fun a u => a + 2 ^ u) 0 = A →
    lfold P st (zC (zn P) k A us) = if zbk P us 0 + zF P k A < st.1 then (zbk P us 0 + zF P k A, zN (yord (us ++ zO P k A) 0)) else st := by
  have hz := hw.1
  intro k
  induction k with
  | zero =>
    intro A us st hA hk hus
    show lst P st us = _
    unfold lst
    show (if zbk P us 0 < st.1 then _ else _) = if zbk P us 0 + 0 < st.1 then (zbk P us 0 + 0, zN (yord (us ++ []) 0)) else st
    rw [List.append_nil, Nat.add_zero]
  | succ k ih =>
    intro A us st hA hk hus
    have hA128 : A < 128 := by have := (zpow_128 hw).1; omega
    obtain ⟨f1, f2, f3⟩ := zfo_ok hw hA hk
    have hsnoc : ∀ u, zbk P (us ++ [u]) 0 = zbk P us 0 + zco P u A := fun u => by
      rw [zbk_app, hus]
      show _ + (zco P u A + 0) = _
      omega
    have hblk : ∀ u st, u < zn P → lfold P st (if A / 2 ^ u % 2 = 0 then zC (zn P) k (A + 2 ^ u) (us ++ [u]) else []) = if A / 2 ^ u % 2 = 0 ∧ zbk P us 0 + (zco P u A + zF P k (A + 2 ^ u)) < st.1 then (zbk P us 0 + (zco P u A + zF P k (A + 2 ^ u)), zN (yord (us ++ (u :: zO P k (A + 2 ^ u))) 0)) else st := fun u st hu => by
      by_cases e : A / 2 ^ u % 2 = 0
      · rw [if_pos e, ih (A + 2 ^ u) (us ++ [u]) st (wb_lt (zn P) (by omega) A hA u hu e) (by have := wb_pc A hA128 u (by omega) e; omega) (by rw [List.foldl_append, hus]; rfl), hsnoc, List.append_assoc, Nat.add_assoc]
        by_cases e2 : zbk P us 0 + (zco P u A + zF P k (A + 2 ^ u)) < st.1
        · rw [if_pos e2, if_pos ⟨e, e2⟩]; rfl
        · rw [if_neg e2, if_neg (fun h => e2 h.2)]
      · rw [if_neg e, if_neg (fun h => e h.1)]; rfl
    have key : ∀ (d u : Nat) (s : Nat × Int32), u + d = zn P → ((s = st ∧ ∀ x, x < u → A / 2 ^ x % 2 = 0 → st.1 ≤ zbk P us 0 + (zco P x A + zF P k (A + 2 ^ x))) ∨ ∃ w, w < u ∧ A / 2 ^ w % 2 = 0 ∧ s = (zbk P us 0 + (zco P w A + zF P k (A + 2 ^ w)), zN (yord (us ++ (w :: zO P k (A + 2 ^ w))) 0)) ∧ zbk P us 0 + (zco P w A + zF P k (A + 2 ^ w)) < st.1 ∧ (∀ x, x < u → A / 2 ^ x % 2 = 0 → zco P w A + zF P k (A + 2 ^ w) ≤ zco P x A + zF P k (A + 2 ^ x)) ∧ ∀ x, x < w → A / 2 ^ x % 2 = 0 → zco P w A + zF P k (A + 2 ^ w) < zco P x A + zF P k (A + 2 ^ x)) →
        lfold P s (zcat (fun u => if A / 2 ^ u % 2 = 0 then zC (zn P) k (A + 2 ^ u) (us ++ [u]) else []) d u) = if zbk P us 0 + zF P (k + 1) A < st.1 then (zbk P us 0 + zF P (k + 1) A, zN (yord (us ++ zO P (k + 1) A) 0)) else st := by
      intro d
      induction d with
      | zero =>
        intro u s hu hs
        show s = _
        rcases hs with ⟨rfl, hs⟩ | ⟨w, w1, w2, w3, w4, w5, w6⟩
        · have := hs (zfo P k A) (by omega) f2
          rw [if_neg (by omega)]
        · have h1 : zF P (k + 1) A = zco P w A + zF P k (A + 2 ^ w) := by
            have a1 := w5 (zfo P k A) (by omega) f2
            have a2 : zF P (k + 1) A ≤ zco P w A + zF P k (A + 2 ^ w) := zmn_lb _ _ _ _ _ w (by omega) (by omega) (decide_eq_true w2)
            omega
          have h2 : zfo P k A = w := zfi_at (zfr0 A) (fun u => zco P u A + zF P k (A + 2 ^ u)) (zF P (k + 1) A) (zn P) 0 w (by omega) (by omega) (decide_eq_true w2) h1.symm (fun x _ q2 q3 => by
            have := w6 x q2 (of_decide_eq_true q3)
            show zco P x A + zF P k (A + 2 ^ x) ≠ _
            omega)
          rw [h1, if_pos w4, w3]
          show _ = (_, zN (yord (us ++ (zfo P k A :: zO P k (A + 2 ^ zfo P k A))) 0))
          rw [h2]
      | succ d ihd =>
        intro u s hu hs
        have e1 : ∀ s, lfold P s (zcat (fun u => if A / 2 ^ u % 2 = 0 then zC (zn P) k (A + 2 ^ u) (us ++ [u]) else []) (d + 1) u) = lfold P (lfold P s (if A / 2 ^ u % 2 = 0 then zC (zn P) k (A + 2 ^ u) (us ++ [u]) else [])) (zcat (fun u => if A / 2 ^ u % 2 = 0 then zC (zn P) k (A + 2 ^ u) (us ++ [u]) else []) d (u + 1)) := fun s => List.foldl_append
        rw [e1, hblk u s (by omega)]
        refine ihd (u + 1) _ (by omega) ?_
        rcases hs with ⟨rfl, hs⟩ | ⟨w, w1, w2, w3, w4, w5, w6⟩
        · by_cases e : A / 2 ^ u % 2 = 0 ∧ zbk P us 0 + (zco P u A + zF P k (A + 2 ^ u)) < s.1
          · rw [if_pos e]
            refine Or.inr ⟨u, by omega, e.1, rfl, e.2, fun x hx hb => ?_, fun x hx hb => ?_⟩
            · by_cases ex : x = u
              · rw [ex]; exact Nat.le_refl _
              · have := hs x (by omega) hb; omega
            · have := hs x hx hb; omega
          · rw [if_neg e]
            refine Or.inl ⟨rfl, fun x hx hb => ?_⟩
            by_cases ex : x = u
            · rw [ex] at hb ⊢
              apply Classical.byContradiction
              intro hn
              exact e ⟨hb, by omega⟩
            · exact hs x (by omega) hb
        · have hs1 : s.1 = zbk P us 0 + (zco P w A + zF P k (A + 2 ^ w)) := by rw [w3]
          by_cases e : A / 2 ^ u % 2 = 0 ∧ zbk P us 0 + (zco P u A + zF P k (A + 2 ^ u)) < s.1
          · rw [if_pos e]
            refine Or.inr ⟨u, by omega, e.1, rfl, by omega, fun x hx hb => ?_, fun x hx hb => ?_⟩
            · by_cases ex : x = u
              · rw [ex]; exact Nat.le_refl _
              · have := w5 x (by omega) hb; omega
            · have := w5 x hx hb; omega
          · rw [if_neg e]
            refine Or.inr ⟨w, by omega, w2, w3, w4, fun x hx hb => ?_, w6⟩
            by_cases ex : x = u
            · rw [ex] at hb ⊢
              apply Classical.byContradiction
              intro hn
              exact e ⟨hb, by omega⟩
            · exact w5 x (by omega) hb
    exact key (zn P) 0 st (by omega) (Or.inl ⟨rfl, fun x hx => by omega⟩)
/-- what least tells -/
noncomputable def zLst (P : zP) : Nat × Int32 := (zF P (zn P) 0, zN (yord (zO P (zn P) 0) 0))
theorem lfold_all {P : zP} (hw : zwf P) : lfold P (1000, zM) (zC (zn P) (zn P) 0 []) = zLst P := by
  rw [lfold_zC hw (zn P) 0 [] (1000, zM) (zpow_128 hw).2 (by show 0 + _ = _; omega) rfl]
  have : zF P (zn P) 0 ≤ 49 := zF_le P _ _
  have e : zbk P [] 0 + zF P (zn P) 0 = zF P (zn P) 0 := by show 0 + _ = _; omega
  rw [e, if_pos (by show _ < 1000; omega)]
  rfl
