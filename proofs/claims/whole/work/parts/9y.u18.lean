/-! ===== u: places moved, members turned ===== -/
theorem zbase_cg {P P' : zP} (h : P'.1 = P.1) : ∀ u, zbase P' u = zbase P u
  | 0 => rfl
  | u + 1 => by
    show zbase P' u + zcnt P' u = zbase P u + zcnt P u
    rw [zbase_cg h u, show zcnt P' = zcnt P by unfold zcnt; rw [h]]
theorem zmid_cg {P P' : zP} (h : P'.1 = P.1) (x : Nat) : zmid P' x = zmid P x := by unfold zmid; rw [zbase_cg h]
theorem zok_cg {P P' : zP} (h : P'.1 = P.1) (x : Nat) : zok P' x = zok P x := by unfold zok zn zcnt; rw [h]
theorem yleaf_cg {K : Nat → Int32} {P P' : zP} (h : P'.1 = P.1) (h2 : P'.2.1 = P.2.1) (t : Nat) (q : zCode) : yleaf K P' t q = yleaf K P t q := by
  unfold yleaf
  simp only [zmid_cg h, zok_cg h, show zknd P' = zknd P by unfold zknd; rw [h2], show znum P' = znum P by unfold znum; rw [h2]]
theorem yTm_cg {K : Nat → Int32} {P P' : zP} (h : P'.1 = P.1) (h2 : P'.2.1 = P.2.1) : ∀ n, yTm K P' n = yTm K P n
  | 0 => funext fun _ => funext fun _ => rfl
  | n + 1 => funext fun t => funext fun l => by
    unfold yTm
    rw [yTm_cg h h2 n]
    simp only [yleaf_cg h h2]
theorem yact_cg {K : Nat → Int32} {P P' : zP} (h : P'.1 = P.1) (h2 : P'.2.1 = P.2.1) (a : Nat) (d : zDeed) : yact K P' a d = yact K P a d := by
  unfold yact ySum
  rw [yTm_cg h h2]
  simp only [zmid_cg h]
theorem yacts_cg {K : Nat → Int32} {P P' : zP} (h : P'.1 = P.1) (h2 : P'.2.1 = P.2.1) : ∀ (l : List zDeed) (a : Nat), yacts K P' a l = yacts K P a l
  | [], _ => rfl
  | d :: l, a => by
    show (yact K P' a d ∧ yacts K P' (a + 1) l) = (yact K P a d ∧ yacts K P (a + 1) l)
    rw [yact_cg h h2, yacts_cg h h2 l]
theorem yMem_cg {K : Nat → Int32} {P P' : zP} (h : P'.1 = P.1) (h2 : P'.2.1 = P.2.1) (x p : Nat) : yMem K P' x p = yMem K P x p := by
  unfold yMem ySum
  simp only [yTm_cg h h2, yact_cg h h2, yacts_cg h h2, show zknd P' = zknd P by unfold zknd; rw [h2], show znum P' = znum P by unfold znum; rw [h2], show znam P' = znam P by unfold znam; rw [h2], show zini P' = zini P by unfold zini; rw [h2], show zfun P' = zfun P by unfold zfun; rw [h2]]
/-- adjacent ones change places -/
theorem zsm_sw {f g : Nat → Nat} {j : Nat} (h1 : g j = f (j + 1)) (h2 : g (j + 1) = f j) (h3 : ∀ k, k ≠ j → k ≠ j + 1 → g k = f k) : ∀ n, j + 1 < n → zsm g n = zsm f n
  | 0, h => by omega
  | n + 1, h => by
    by_cases e : j + 1 = n
    · obtain ⟨m, rfl⟩ : ∃ m, n = m + 1 := ⟨n - 1, by omega⟩
      have hj : j = m := by omega
      subst hj
      show zsm g j + g j + g (j + 1) = zsm f j + f j + f (j + 1)
      rw [zsm_ext (f := g) (g := f) j (fun i hi => h3 i (by omega) (by omega)), h1, h2]
      omega
    · show zsm g n + g n = zsm f n + f n
      rw [zsm_sw h1 h2 h3 n (by omega), h3 n (by omega) (by omega)]
theorem zpl_up {f : Nat → Nat} {i j : Nat} (h : i ≤ j) : zpl f i (j + 1) = zpl (zpl f i j) j (j + 1) := by
  funext k
  unfold zpl
  by_cases e1 : k = j + 1
  · simp only [e1, if_true]
  · rw [if_neg e1, if_neg e1]
    by_cases e2 : k = j
    · subst e2
      rw [if_pos ⟨h, by omega⟩, if_pos (show k ≤ k ∧ k < k + 1 by omega), if_neg (by omega), if_neg (by omega), if_neg (by omega)]
    · rw [if_neg (show ¬ (j ≤ k ∧ k < j + 1) by omega), if_neg (show ¬ (j + 1 < k ∧ k ≤ j) by omega), if_neg e2]
      by_cases e3 : i ≤ k ∧ k < j
      · rw [if_pos (by omega), if_pos e3]
      · rw [if_neg (by omega), if_neg e3, if_neg (by omega), if_neg (by omega)]
theorem zpl_dn {f : Nat → Nat} {i j : Nat} (h : j ≤ i) : zpl f (i + 1) j = zpl (zpl f (i + 1) i) i j := by
  funext k
  unfold zpl
  by_cases e1 : k = j
  · simp only [e1, if_true]
  · rw [if_neg e1, if_neg e1, if_neg (show ¬ (i + 1 ≤ k ∧ k < j) by omega), if_neg (show ¬ (i ≤ k ∧ k < j) by omega)]
    by_cases e2 : k = i + 1
    · subst e2
      rw [if_pos (by omega), if_neg (show ¬ (j < i + 1 ∧ i + 1 ≤ i) by omega), if_neg (by omega), if_neg (by omega), if_pos (by omega)]
    · by_cases e3 : j < k ∧ k ≤ i
      · rw [if_pos (by omega), if_pos e3, if_neg (by omega), if_neg (by omega), if_neg (by omega)]
      · rw [if_neg (by omega), if_neg e3]
        by_cases e4 : k = i
        · omega
        · rw [if_neg e4, if_neg (by omega), if_neg (by omega)]
theorem zpl_id {f : Nat → Nat} {i : Nat} : zpl f i i = f := by
  funext k
  unfold zpl
  by_cases e1 : k = i
  · rw [if_pos e1, e1]
  · rw [if_neg e1, if_neg (by omega), if_neg (by omega)]
theorem zpl_in {f : Nat → Nat} {i j : Nat} : zpl (zpl f i j) j i = f := by
  funext k
  unfold zpl
  by_cases e1 : k = i
  · simp only [e1, if_true]
  · rw [if_neg e1]
    by_cases e2 : j ≤ k ∧ k < i
    · rw [if_pos e2, if_neg (by omega), if_neg (by omega), if_pos (by omega)]; rfl
    · rw [if_neg e2]
      by_cases e3 : i < k ∧ k ≤ j
      · rw [if_pos e3, if_neg (by omega), if_pos (by omega), show k - 1 + 1 = k by omega]
      · rw [if_neg e3, if_neg (by omega), if_neg (by omega), if_neg (by omega)]
theorem zpl_up_s {n i : Nat} (g : Nat → Nat) : ∀ (dd : Nat) (f : Nat → Nat), i + dd < n → zsm (fun k => g (zpl f i (i + dd) k)) n = zsm (fun k => g (f k)) n
  | 0, f, _ => by rw [Nat.add_zero, zpl_id]
  | dd + 1, f, h => by
    rw [← zpl_up_s (i := i) g dd f (by omega), show i + (dd + 1) = i + dd + 1 by omega, zpl_up (by omega)]
    refine zsm_sw (j := i + dd) ?_ ?_ (fun k h1 h2 => ?_) n (by omega)
    · show g (zpl (zpl f i (i + dd)) (i + dd) (i + dd + 1) (i + dd)) = _
      rw [zpl, if_neg (by omega), if_pos (by omega)]
    · show g (zpl (zpl f i (i + dd)) (i + dd) (i + dd + 1) (i + dd + 1)) = _
      rw [zpl, if_pos rfl]
    · show g (zpl (zpl f i (i + dd)) (i + dd) (i + dd + 1) k) = _
      rw [zpl, if_neg (by omega), if_neg (by omega), if_neg (by omega)]
theorem zpl_dn_s {n j : Nat} (g : Nat → Nat) : ∀ (dd : Nat) (f : Nat → Nat), j + dd < n → zsm (fun k => g (zpl f (j + dd) j k)) n = zsm (fun k => g (f k)) n
  | 0, f, _ => by rw [Nat.add_zero, zpl_id]
  | dd + 1, f, h => by
    rw [show j + (dd + 1) = j + dd + 1 by omega, zpl_dn (by omega), zpl_dn_s g dd _ (by omega)]
    refine zsm_sw (j := j + dd) ?_ ?_ (fun k h1 h2 => ?_) n (by omega)
    · show g (zpl f (j + dd + 1) (j + dd) (j + dd)) = _
      rw [zpl, if_pos rfl]
    · show g (zpl f (j + dd + 1) (j + dd) (j + dd + 1)) = _
      rw [zpl, if_neg (by omega), if_neg (by omega), if_pos (by omega)]; rfl
    · show g (zpl f (j + dd + 1) (j + dd) k) = _
      rw [zpl, if_neg (by omega), if_neg (by omega), if_neg (by omega)]
theorem zpl_s {n i j : Nat} (hi : i < n) (hj : j < n) (g f : Nat → Nat) : zsm (fun k => g (zpl f i j k)) n = zsm (fun k => g (f k)) n := by
  by_cases h : i ≤ j
  · have := zpl_up_s (n := n) (i := i) g (j - i) f (by omega)
    rwa [show i + (j - i) = j by omega] at this
  · have := zpl_dn_s (n := n) (j := j) g (i - j) f (by omega)
    rwa [show j + (i - j) = i by omega] at this
section UR
variable {P : zP} {u i j : Nat}
theorem jW_shf (h : jW P) (hi : i < zcnt P u) (hj : j < zcnt P u) : jW (zshf P u i j) := by
  obtain ⟨⟨w1, w2, w3⟩, h2, h3, h4⟩ := h
  refine ⟨⟨w1, fun v hv => ⟨(w2 v hv).1, (w2 v hv).2.1, (w2 v hv).2.2.1, fun k hk => ?_⟩, w3⟩, fun v hv g => ?_, h3, h4⟩
  · show zset (zplc P) u (zpl (zplc P u) i j) v k < zcnt P v
    have hk' : k < zcnt P v := hk
    by_cases e : v = u
    · subst e
      rw [zset_eq]
      have hw := (w2 v hv).2.2.2
      unfold zpl
      split
      · exact hw _ hi
      · split
        · exact hw _ (by omega)
        · split
          · exact hw _ (by omega)
          · exact hw _ hk'
    · rw [zset_ne _ _ e]; exact (w2 v hv).2.2.2 k hk'
  · show zsm (fun k => g (zset (zplc P) u (zpl (zplc P u) i j) v k)) (zcnt P v) = zsm g (zcnt P v)
    by_cases e : v = u
    · subst e
      rw [zset_eq, zpl_s hi hj]; exact h2 v hv g
    · rw [zset_ne _ _ e]; exact h2 v hv g
theorem jW_tog (x : Nat) (h : jW P) : jW (ztog P x) := ⟨h.1, h.2.1, h.2.2.1, h.2.2.2⟩
theorem zun_shf : zundo (zshf P u i j) (u, i, some j) = P := by
  show ((P.1, P.2.1, P.2.2.1, zset (zset (zplc P) u (zpl (zplc P u) i j)) u (zpl (zset (zplc P) u (zpl (zplc P u) i j) u) j i), zon P) : zP) = P
  rw [zset_eq, zpl_in]
  have : zset (zset (zplc P) u (zpl (zplc P u) i j)) u (zplc P u) = zplc P := by
    funext v
    by_cases e : v = u
    · rw [e, zset_eq]
    · rw [zset_ne _ _ e, zset_ne _ _ e]
  rw [this]; rfl
theorem ztog_tog (x : Nat) : ztog (ztog P x) x = P := by
  show ((P.1, P.2.1, P.2.2.1, zplc P, zset (zset (zon P) x (!(zon P x))) x (!(zset (zon P) x (!(zon P x)) x))) : zP) = P
  rw [zset_eq, Bool.not_not]
  have : zset (zset (zon P) x (!(zon P x))) x (zon P x) = zon P := by
    funext v
    by_cases e : v = x
    · rw [e, zset_eq]
    · rw [zset_ne _ _ e, zset_ne _ _ e]
  rw [this]; rfl
theorem zun_tog : zundo (ztog P (12 * u + zplc P u i)) (u, i, none) = P := ztog_tog _
theorem zun_1 (e : zCh) : (zundo P e).1 = P.1 ∧ (zundo P e).2.1 = P.2.1 ∧ (zundo P e).2.2.1 = P.2.2.1 := by
  obtain ⟨u, i, o⟩ := e
  cases o <;> exact ⟨rfl, rfl, rfl⟩
end UR
