/-! ===== z: whole runs of the class ===== -/
def zSteps (P : zP) : List zDeed → zS → Bool × zS
  | [], s => (false, s)
  | d :: ds, s => if (zDo P (zL P 20).1 (zL P 20).2 d s).1 = 2 then (true, zs_sp (zDo P (zL P 20).1 (zL P 20).2 d s).2.2 (zsp (zDo P (zL P 20).1 (zL P 20).2 d s).2.2 + 1))
    else zSteps P ds (zs_sp (if (zDo P (zL P 20).1 (zL P 20).2 d s).1 = 1 then zs_fs (zDo P (zL P 20).1 (zL P 20).2 d s).2.2 (zfs (zDo P (zL P 20).1 (zL P 20).2 d s).2.2 + 1) else (zDo P (zL P 20).1 (zL P 20).2 d s).2.2) (zsp (zDo P (zL P 20).1 (zL P 20).2 d s).2.2 + 1))
theorem zSteps_c (P : zP) (d : zDeed) (ds : List zDeed) (s : zS) : zSteps P (d :: ds) s = if (zDo P (zL P 20).1 (zL P 20).2 d s).1 = 2 then (true, zs_sp (zDo P (zL P 20).1 (zL P 20).2 d s).2.2 (zsp (zDo P (zL P 20).1 (zL P 20).2 d s).2.2 + 1))
    else zSteps P ds (zs_sp (if (zDo P (zL P 20).1 (zL P 20).2 d s).1 = 1 then zs_fs (zDo P (zL P 20).1 (zL P 20).2 d s).2.2 (zfs (zDo P (zL P 20).1 (zL P 20).2 d s).2.2 + 1) else (zDo P (zL P 20).1 (zL P 20).2 d s).2.2) (zsp (zDo P (zL P 20).1 (zL P 20).2 d s).2.2 + 1)) := by
  rw [zSteps]
def zMain (P : zP) (s : zS) : Bool × zS := zSteps P (zstp P) (zs_sp s 0)
def zTouches (P : zP) : List Nat → zS → Bool × zS
  | [], s => (false, s)
  | u :: us, s => if ((zL P 20).1 u s).1 = 2 then (true, ((zL P 20).1 u s).2.2) else zTouches P us ((zL P 20).1 u s).2.2
def zInit (p : Nat) : zS := (fun _ => 0, fun _ => 0, fun _ => false, [], [], 0, [], 0, fun _ => (0, 0, 0), (0, 0, 0), p, 0)
def zPlain (P : zP) : Bool × zS := zMain P (zInit 0)
def zAhead (P : zP) (p : Nat) (us : List Nat) : Bool × zS := if (zTouches P us (zInit p)).1 then (true, zs_sp (zTouches P us (zInit p)).2 0) else zMain P (zTouches P us (zInit p)).2
/-- the class's run at r shows how a run ended -/
def zFin (t : Bool) (m : XM) (r : Nat) (P : zP) (q : Bool × zS) : Prop := zSi P q.2 ∧ zCr t m r P q.2 ∧ gi m r 15 = (if q.1 then zN 1 else zN 0) ∧ (q.1 = false → zCo m r q.2 ∧ zopn q.2 = [])
theorem zs_opn_id {s : zS} (h : zopn s = []) : zs_opn s [] = s := by
  have : zs_opn s (zopn s) = s := rfl
  rwa [h] at this
theorem zc_fill_5 {N : Nat → Nat} {a len : Nat} {v : Int32} (hl : len ≤ N a) (hl2 : len < 2147483648) : ∀ (d n i : Nat) (m : XM), d < n → i + d = len →
    ∃ m', fJ7_fill_53178_5 N n a v (zN i) (zN len) m = some m' ∧ zfr a (a + 1) m m' ∧ (∀ k, gr m' a k = gr m a k) ∧ ∀ k, gi m' a k = if i ≤ k ∧ k < len then v else gi m a k := by
  intro d
  induction d with
  | zero =>
    intro n i m hn hi
    obtain ⟨n, rfl⟩ : ∃ k, n = k + 1 := ⟨n - 1, by omega⟩
    refine ⟨m, ?_, zfr_rf _ _ m, fun _ => rfl, fun k => ?_⟩
    · unfold fJ7_fill_53178_5
      simp (disch := omega) only [zv, zN_le]
      rw [if_pos (by omega)]
    · rw [if_neg (by omega)]
  | succ d ih =>
    intro n i m hn hi
    obtain ⟨n, rfl⟩ : ∃ k, n = k + 1 := ⟨n - 1, by omega⟩
    obtain ⟨m', p1, p2, p3, p4⟩ := ih n (i + 1) (si m a i v) (by omega) (by omega)
    refine ⟨m', ?_, zfr_tr (zfr_si m (Nat.le_refl _) (by omega)) p2, p3, fun k => ?_⟩
    · unfold fJ7_fill_53178_5
      simp (disch := omega) only [zv, zN_le]
      rw [if_neg (by omega)]
      simp (disch := omega) only [zast, zN_lit, zN_add]
      exact p1
    · rw [p4 k]
      by_cases e : k = i
      · subst e
        rw [if_neg (by omega), gi_si, if_pos (by omega)]
      · rw [gi_ne (by omega)]
        by_cases e2 : i ≤ k ∧ k < len
        · rw [if_pos (by omega), if_pos e2]
        · rw [if_neg (by omega), if_neg e2]
theorem zc_fill {N : Nat → Nat} {a len : Nat} {v : Int32} (m : XM) (hl : N a = len) (hl2 : len < 90000) :
    ∃ m', fJ7_fill_53178 N a v m = some m' ∧ zfr a (a + 1) m m' ∧ (∀ k, gr m' a k = gr m a k) ∧ ∀ k, gi m' a k = if k < len then v else gi m a k := by
  unfold fJ7_fill_53178
  have hX := zXF
  revert hX
  generalize XF = nf
  intro hX
  obtain ⟨m', p1, p2, p3, p4⟩ := zc_fill_5 (N := N) (a := a) (len := len) (v := v) (by omega) (by omega) len nf 0 m (by omega) (by omega)
  refine ⟨m', ?_, p2, p3, fun k => ?_⟩
  · simp only [zv, hl]
    exact p1
  · rw [p4 k]
    simp only [Nat.zero_le, true_and]
theorem zRr_sr {m : XM} {r c c' : Nat} (h : zRr m r c) : zRr (sr m r 0 (some c')) r c' := by
  obtain ⟨h0, h1, h2, h3, h4, h5, h6, h7, h8, h9, h10, h11, h12⟩ := h
  refine ⟨gr_sr _ _ _ _, ?_, ?_, ?_, ?_, ?_, ?_, ?_, ?_, ?_, ?_, ?_, ?_⟩ <;> (rw [gr_ne (by omega)]; assumption)
theorem zUr_w {m m' : XM} {c : Nat} (h0 : ∀ a k, c ≤ a → a < c + 18 → gr m' a k = gr m a k) (h : zUr m c) : zUr m' c := zUr_fr h0 h
/-- a run is set back -/
theorem zc_reset {N : Nat → Nat} {t : Bool} {m : XM} {r c c0 : Nat} {P : zP} {p : Nat} (hUN : zUN N c) (hRN : zRN N r) (hdis : c + 18 ≤ r) (hwf : zwf P) (hUr : zUr m c) (hCP : zCP m c P) (hRr : zRr m r c0) (hp : gi m r 16 = zN p) (hp10 : p ≤ 10) :
    ∃ m', fX2_reset N r c m = some m' ∧ zfr r (r + 13) m m' ∧ zU N m' r c P ∧ zCR t m' r P (zInit p) ∧ (∀ k, gi m' (r + 11) k = gi m (r + 11) k) := by
  have hn1 := hRN.1
  have hn2 := hRN.2.1
  unfold fX2_reset
  have hR1 := zRr_sr (c' := c) hRr
  have f0 : zfr r (r + 13) m (sr m r 0 (some c)) := zfr_sr (zfr_rf _ _ m) (by omega) (by omega)
  obtain ⟨m1, a1, a2, a3, a4⟩ := zc_fill (N := N) (a := r + 1) (v := zN 0) (sr m r 0 (some c)) hn1 (by omega)
  obtain ⟨m2, b1, b2, b3, b4⟩ := zc_fill (N := N) (a := r + 2) (v := zN 0) m1 hn2 (by omega)
  have hgr : ∀ a k, gr m2 a k = gr (sr m r 0 (some c)) a k := fun a k => by
    have e1 : gr m2 a k = gr m1 a k := by
      by_cases e : a = r + 2
      · rw [e]; exact b3 k
      · exact (b2 a (by omega)).2.2 k
    have e2 : gr m1 a k = gr (sr m r 0 (some c)) a k := by
      by_cases e : a = r + 1
      · rw [e]; exact a3 k
      · exact (a2 a (by omega)).2.2 k
    rw [e1, e2]
  have hgr1 : ∀ a k, gr m1 a k = gr (sr m r 0 (some c)) a k := fun a k => by
    by_cases e : a = r + 1
    · rw [e]; exact a3 k
    · exact (a2 a (by omega)).2.2 k
  have g1 : gr (sr m r 0 (some c)) r 1 = some (r + 1) := hR1.2.1
  have g2 : gr m1 r 2 = some (r + 2) := by rw [hgr1]; exact hR1.2.2.1
  have f2 : zfr r (r + 13) m m2 := zfr_tr f0 (zfr_tr (zfr_wd a2 (by omega) (by omega)) (zfr_wd b2 (by omega) (by omega)))
  refine ⟨si (si (si (si (si (si (si m2 r 4 (zN 0)) r 7 (zN 0)) r 11 (zN 0)) r 12 (zN 0)) r 13 (zN 0)) r 14 (zN 0)) r 15 (zN 0), ?_, ?_, ?_, ?_, ?_⟩
  · simp only [zv, zN_lit, zgr g1, a1, zcv, zgr g2, b1]
  · exact zfr_st (zfr_st (zfr_st (zfr_st (zfr_st (zfr_st (zfr_st f2 (by omega) (by omega)) (by omega) (by omega)) (by omega) (by omega)) (by omega) (by omega)) (by omega) (by omega)) (by omega) (by omega)) (by omega) (by omega)
  · refine ⟨hUN, hRN, Or.inl hdis, hwf, zUr_fr (fun a k q1 q2 => ?_) hUr, zCP_fr (fun a k q1 q2 => ?_) hCP, ?_⟩
    · simp only [gr_si]; exact (f2 a (by omega)).2.2 k
    · rw [gi_ne (by omega), gi_ne (by omega), gi_ne (by omega), gi_ne (by omega), gi_ne (by omega), gi_ne (by omega), gi_ne (by omega)]; exact (f2 a (by omega)).1 k
    · unfold zRr
      simp only [gr_si, hgr]
      exact hR1
  · have e16 : gi m2 r 16 = zN p := by
      rw [(b2 r (by omega)).1, (a2 r (by omega)).1]; exact hp
    refine ⟨⟨fun _ => Nat.zero_le _, Nat.zero_le _, fun x hx => (by cases hx), Nat.zero_le _, Nat.zero_le _, Nat.zero_le _, hp10, by show 0 + zfree (fun _ => 0) ≤ 7; decide, fun q hq => (by cases hq)⟩, ⟨fun u hu => ?_, fun x hx => ?_, fun x hx hs => (by cases hs), ?_, trivial, ?_, ?_, ?_, ?_, ?_, fun _ u _ hs => (by cases hs), fun k q _ _ hq => (by cases hq)⟩, ?_, trivial, ?_⟩
    · rw [gi_ne (by omega), gi_ne (by omega), gi_ne (by omega), gi_ne (by omega), gi_ne (by omega), gi_ne (by omega), gi_ne (by omega), (b2 _ (by omega)).1, a4, if_pos hu]; rfl
    · have := zok_84 hwf hx
      rw [gi_ne (by omega), gi_ne (by omega), gi_ne (by omega), gi_ne (by omega), gi_ne (by omega), gi_ne (by omega), gi_ne (by omega), b4, if_pos this.1]; rfl
    · rw [gi_ne (by omega), gi_ne (by omega), gi_ne (by omega), gi_ne (by omega), gi_ne (by omega), gi_ne (by omega), gi_si]; rfl
    · rw [gi_ne (by omega), gi_ne (by omega), gi_ne (by omega), gi_ne (by omega), gi_si]; rfl
    · rw [gi_ne (by omega), gi_ne (by omega), gi_ne (by omega), gi_si]; rfl
    · rw [gi_ne (by omega), gi_ne (by omega), gi_si]; rfl
    · rw [gi_ne (by omega), gi_si]; rfl
    · rw [gi_ne (by omega), gi_ne (by omega), gi_ne (by omega), gi_ne (by omega), gi_ne (by omega), gi_ne (by omega), gi_ne (by omega)]; exact e16
    · rw [gi_ne (by omega), gi_ne (by omega), gi_ne (by omega), gi_ne (by omega), gi_ne (by omega), gi_si]; rfl
    · rw [gi_si]
  · intro k
    rw [gi_ne (by omega), gi_ne (by omega), gi_ne (by omega), gi_ne (by omega), gi_ne (by omega), gi_ne (by omega), gi_ne (by omega), (b2 _ (by omega)).1, (a2 _ (by omega)).1]; rfl
section ZW
variable {t : Bool} {m : XM} {r : Nat} {P : zP} {s : zS}
theorem zCr_sp {w : Nat} (h : zCr t m r P s) : zCr t (si m r 16 (zN w)) r P (zs_sp s w) := by
  obtain ⟨q1, q2, q3, q4, q5, q6, q7, q8, q9, q10, q11, q12⟩ := h
  refine ⟨fun u hu => ?_, fun x hx => ?_, fun x hx hs => ?_, ?_, zstk_o (by omega) q5, ?_, ?_, ?_, ?_, gi_si _ _ _ _, fun ht u hu hs => ?_, fun k q hk hk' hq => ?_⟩
  · rw [gi_ne (by omega)]; exact q1 u hu
  · rw [gi_ne (by omega)]; exact q2 x hx
  · rw [gi_ne (by omega)]; exact q3 x hx hs
  · rw [gi_ne (by omega)]; exact q4
  · rw [gi_ne (by omega)]; exact q6
  · rw [gi_ne (by omega)]; exact q7
  · rw [gi_ne (by omega)]; exact q8
  · rw [gi_ne (by omega)]; exact q9
  · rw [gi_ne (by omega), gi_ne (by omega), gi_ne (by omega)]; exact q11 ht u hu hs
  · rw [gi_ne (by omega)] at hk
    exact zsgt_fr (fun k => gi_ne (by omega)) (fun k => gi_ne (by omega)) (q12 k q hk hk' hq)
theorem zCr_fs {w : Nat} (h : zCr t m r P s) : zCr t (si m r 14 (zN w)) r P (zs_fs s w) := by
  obtain ⟨q1, q2, q3, q4, q5, q6, q7, q8, q9, q10, q11, q12⟩ := h
  refine ⟨fun u hu => ?_, fun x hx => ?_, fun x hx hs => ?_, ?_, zstk_o (by omega) q5, ?_, ?_, ?_, gi_si _ _ _ _, ?_, fun ht u hu hs => ?_, fun k q hk hk' hq => ?_⟩
  · rw [gi_ne (by omega)]; exact q1 u hu
  · rw [gi_ne (by omega)]; exact q2 x hx
  · rw [gi_ne (by omega)]; exact q3 x hx hs
  · rw [gi_ne (by omega)]; exact q4
  · rw [gi_ne (by omega)]; exact q6
  · rw [gi_ne (by omega)]; exact q7
  · rw [gi_ne (by omega)]; exact q8
  · rw [gi_ne (by omega)]; exact q10
  · rw [gi_ne (by omega), gi_ne (by omega), gi_ne (by omega)]; exact q11 ht u hu hs
  · rw [gi_ne (by omega)] at hk
    exact zsgt_fr (fun k => gi_ne (by omega)) (fun k => gi_ne (by omega)) (q12 k q hk hk' hq)
theorem zSi_sp {w : Nat} (h : zSi P s) (hw : w ≤ 10) : zSi P (zs_sp s w) := by
  obtain ⟨a1, a2, a3, a4, a5, a6, a7, a8⟩ := h
  exact ⟨a1, a2, a3, a4, a5, a6, hw, a8⟩
theorem zSi_fs {w : Nat} (h : zSi P s) : zSi P (zs_fs s w) := h
end ZW
