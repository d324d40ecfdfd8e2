/-! ===== u: more calls that ask ===== -/
def jOv (N : Nat → Nat) (o1 : Option (Int32 × XM)) (o2 : XM → Option (Int32 × XM)) : Prop := ∃ v m1 m2 c d S, o1 = some (v, m1) ∧ o2 m1 = some (v, m2) ∧ jC N m2 c d S ∧ jM N m2 S
section UE
variable {N : Nat → Nat} {m : XM} {c d : Nat} {S : zJ}
theorem jOv_ok {o1 : Option (Int32 × XM)} {o2 : XM → Option (Int32 × XM)} {v : Int32} {m1 : XM} {c' d' : Nat} {S' : zJ} (hM : jM N m S) (h1 : o1 = some (v, m1)) (hC : jC N m1 c' d' S') (hf : jfc m m1) (h2 : ∀ m2, jM N m2 S → ∃ m3, o2 m2 = some (v, m3) ∧ jM N m3 S' ∧ jfm m2 m3 ∧ gi m3 85 0 = zN 0) : jOv N o1 o2 := by
  obtain ⟨m3, b1, b2, b3, -⟩ := h2 m1 (jM_c hM hf)
  exact ⟨v, m1, m3, c', d', S', h1, b1, jC_m hC b3, b2⟩
theorem zstk_eq {m m' : XM} {a a' k : Nat} : ∀ {l : List Nat}, zstk m a l → zstk m' a' l → k < l.length → gi m a k = gi m' a' k
  | [], _, _, h => by simp at h
  | x :: l, h1, h2, h => by
    by_cases e : k = l.length
    · rw [e, h1.1, h2.1]
    · exact zstk_eq h1.2 h2.2 (by simp at h; omega)
theorem o_begun (hC : jC N m c d S) (hM : jM N m S) (x : Int32) : jOv N (fX8_begun N 0 x m) (fX9_begun N 85 x) := by
  obtain ⟨m1, a1, a2, a3, a4, a5, a6, a7⟩ := u_plain hC
  have r5 := a2.2.1.2.1.2.2.2.2.1
  have hN54 : N 54 = 7 := hC.1.2.2.2.2.2.1.2.2.2.1
  have r54 : gr m1 50 5 = some 54 := a7.2.2.2.2.2.2.2.2.2.2.1
  have h4 : gi m1 50 4 = zN (zbeg (zPlain (jP S)).2).length := a6.2.1.2.2.2.1
  have hs : zstk m1 54 (zbeg (zPlain (jP S)).2) := a6.2.1.2.2.2.2.1
  have hle : (zbeg (zPlain (jP S)).2).length ≤ 7 := by have := a6.1.2.2.2.2.2.2.2.1; omega
  by_cases hx : ∃ k, k < (zbeg (zPlain (jP S)).2).length ∧ x = zN k
  · obtain ⟨k, k1, rfl⟩ := hx
    refine jOv_ok (v := gi m1 54 k) (m1 := m1) hM ?_ a2 a3 (fun m2 hm2 => y_fresh hm2 (fun h0 => ?_))
    · unfold fX8_begun
      simp (disch := omega) only [a1, zcv, zN_lit, zlt0, if_false, zgr r5, zv, h4, zN_le, zgr r54, zald]
      rw [if_neg (by omega)]
    · obtain ⟨m3, b1, b2, b3, b4, b5⟩ := y_lays h0.1
      refine ⟨m3, ?_, b2, b3, b4.trans h0.2⟩
      have hf := yFs_show b5
      obtain ⟨⟨-, -, -, -, -, -, -, -, -, n95, -⟩, ⟨-, -, -, -, -, -, -, -, -, g19, -⟩, -⟩ := jM_U b2
      have h27 := hf.2.2.2.1
      have hin : fX9_in N (zN k) (zN 0) (zN (zbeg (zPlain (jP S)).2).length - zN 1) m3 = some (zN 1, m3) := by
        rcases y_inn (N := N) (m := m3) (n := (zbeg (zPlain (jP S)).2).length) (by omega) (zN k) with ⟨w, w1, w2, w3⟩ | ⟨w1, -⟩
        · exact w3
        · exact absurd rfl (w1 k k1)
      unfold fX9_begun
      simp (disch := omega) only [zv, zN_lit, b1, zcv, h27, hin, zca, zN10, if_false, zgr g19, zald]
      rw [zstk_eq hf.2.2.2.2.1 hs k1]
  · refine jOv_ok (v := zM) (m1 := m1) hM ?_ a2 a3 (fun m2 hm2 => y_fresh hm2 (fun h0 => ?_))
    · unfold fX8_begun fX8_begun_31
      rcases zcase x with e | ⟨k, k1, rfl⟩
      · simp only [a1, zcv, zN_lit, e, if_true, zneg]
      · have hk : (zbeg (zPlain (jP S)).2).length ≤ k := by
          apply Classical.byContradiction
          intro hn
          exact hx ⟨k, by omega, rfl⟩
        simp (disch := omega) only [a1, zcv, zN_lit, zlt0, if_false, zgr r5, zv, h4, zN_le, hk, if_true, zneg]
    · obtain ⟨m3, b1, b2, b3, b4, b5⟩ := y_lays h0.1
      refine ⟨m3, ?_, b2, b3, b4.trans h0.2⟩
      have h27 := (yFs_show b5).2.2.2.1
      have hin : fX9_in N x (zN 0) (zN (zbeg (zPlain (jP S)).2).length - zN 1) m3 = some (zN 0, m3) := by
        rcases y_inn (N := N) (m := m3) (n := (zbeg (zPlain (jP S)).2).length) (by omega) x with ⟨w, w1, w2, w3⟩ | ⟨-, w2⟩
        · exact absurd ⟨w, w1, w2⟩ hx
        · exact w2
      unfold fX9_begun
      simp (disch := omega) only [zv, zN_lit, b1, zcv, h27, hin, zca, if_true, zneg]
theorem o_fault (hC : jC N m c d S) (hM : jM N m S) : jOv N (fX8_fault N 0 m) (fX9_fault N 85) := by
  have h1 := hC.2.2.2.2.2.2.2.1.2.2.1
  refine jOv_ok (v := jf S) (m1 := m) hM ?_ hC (jfc_rf m) (fun m2 hm2 => y_fresh hm2 (fun h0 => ⟨_, ?_, h0.1, jfm_rf _, h0.2⟩))
  · unfold fX8_fault
    simp only [zv, h1]
  · have h5 := h0.1.2.2.2.2.2.2.2.1.2.2.1
    unfold fX9_fault
    simp only [zv, zN_lit, h5]
theorem o_status (hC : jC N m c d S) (hM : jM N m S) (x : Int32) : jOv N (fX8_status N 0 x m) (fX9_status N 85 x) := by
  obtain ⟨-, -, -, h12, h13, -⟩ := hC.2.2.2.2.2.2.2.1
  refine jOv_ok (v := if x = zN 0 then jr0 S else if x = zN 1 then jr1 S else zM) (m1 := m) hM ?_ hC (jfc_rf m) (fun m2 hm2 => y_fresh hm2 (fun h0 => ⟨_, ?_, h0.1, jfm_rf _, h0.2⟩))
  · unfold fX8_status
    simp only [zv, zN_lit, h12, h13, zneg]
    split
    · rfl
    · split <;> rfl
  · obtain ⟨-, -, -, k4, k5, -⟩ := h0.1.2.2.2.2.2.2.2.1
    have g1 := h0.1.2.1.1
    have n86 := h0.1.1.2.2.2.2.2.2.2.2.2.2.1.1
    unfold fX9_status
    rcases y_in (N := N) (m := si m2 85 0 (zN 0)) (l := 1) (by omega) x with ⟨w, w1, rfl, w3⟩ | ⟨w1, w2⟩
    · simp (disch := omega) only [zv, zN_lit, w3, zca, zN10, if_false, zgr g1, zald]
      have hc : w = 0 ∨ w = 1 := by omega
      rcases hc with rfl | rfl
      · rw [if_pos rfl, k4]
      · rw [if_neg (by rw [zN10]; exact id), if_pos rfl, k5]
    · simp (disch := omega) only [zv, zN_lit, w2, zca, if_true, zneg]
      rw [if_neg (w1 0 (by omega)), if_neg (w1 1 (by omega))]
/-- the member that bears a name -/
theorem y_named {P : zP} (hU : yU N m P) (hw : jW P) {u : Nat} (hu : u < zn P) (x : Int32) : ∀ (dd n i : Nat), dd < n → i + dd = zcnt P u → (∀ k, k < i → ∀ a, znk P (12 * u + zplc P u k) → znam P (12 * u + zplc P u k) = some a → x ≠ zN a) →
    (∃ y a, znk P y ∧ y / 12 = u ∧ znam P y = some a ∧ x = zN a ∧ fX9_named_2 N n 88 (zN u) x (zN i) m = some (zN (zmid P y), m)) ∨ ((∀ y a, znk P y → y / 12 = u → znam P y = some a → x ≠ zN a) ∧ fX9_named_2 N n 88 (zN u) x (zN i) m = some (zM, m)) := by
  have hwf := hw.1
  have hz := hwf.1
  have hcn := (hwf.2.1 u hu).1
  obtain ⟨⟨-, -, n88, -⟩, -, -, ⟨-, -, -, hu0, hm, -⟩⟩ := hU
  have hc := (hu0 u hu).2.2.1
  intro dd
  induction dd with
  | zero =>
    intro n i hn hi hno
    obtain ⟨n, rfl⟩ : ∃ j, n = j + 1 := ⟨n - 1, by omega⟩
    refine Or.inr ⟨fun y a hy hyu hya => ?_, ?_⟩
    · obtain ⟨k, k1, k2⟩ := zps_pm hw.2.1 u hu (y % 12) (by have := hy.1.2; rw [hyu] at this; exact this)
      have e : y = 12 * u + zplc P u k := by omega
      rw [e] at hy hya
      exact hno k (by omega) a hy hya
    · unfold fX9_named_2
      simp (disch := omega) only [zv, zN_lit, yo_unit, zca, hc, zN_le, zneg]
      rw [if_pos (by omega)]
  | succ dd ih =>
    intro n i hn hi hno
    obtain ⟨n, rfl⟩ : ∃ j, n = j + 1 := ⟨n - 1, by omega⟩
    have hp := (hu0 u hu).2.2.2 i (by omega)
    have hok := zplc_ok hwf hu (i := i) (by omega)
    have hmid := zmid_lt hwf hok
    have hme := zmid_plc hwf hu (i := i) (by omega)
    have hdv : (12 * u + zplc P u i) / 12 = u := by
      have := (hwf.2.1 u hu).2.2.2 i (by omega)
      omega
    obtain ⟨⟨y0, y1, -⟩, -⟩ := hm _ hok
    have hk4 := (hwf.2.2.1 _ hok).1
    have h26 := (hwf.2.2.1 _ hok).2.2.2.2.2
    rw [hme] at y0 y1
    have e0 := yo_mem (m := m) (a := 88) (x := zbase P u + zplc P u i) (w := 0) n88 (by omega) (by omega)
    rw [Nat.add_zero, y0] at e0
    have hskip : (∀ a, znk P (12 * u + zplc P u i) → znam P (12 * u + zplc P u i) = some a → x ≠ zN a) → (∃ y a, znk P y ∧ y / 12 = u ∧ znam P y = some a ∧ x = zN a ∧ fX9_named_2 N n 88 (zN u) x (zN (i + 1)) m = some (zN (zmid P y), m)) ∨ ((∀ y a, znk P y → y / 12 = u → znam P y = some a → x ≠ zN a) ∧ fX9_named_2 N n 88 (zN u) x (zN (i + 1)) m = some (zM, m)) := fun h => ih n (i + 1) (by omega) (by omega) (fun k hk a => by
      by_cases e : k = i
      · rw [e]; exact h a
      · exact hno k (by omega) a)
    have hstep : ∀ b : Bool, b = decide (zknd P (12 * u + zplc P u i) = 0 ∨ zknd P (12 * u + zplc P u i) = 1 ∨ zknd P (12 * u + zplc P u i) = 4) → fX9_named_2 N (n + 1) 88 (zN u) x (zN i) m = if b then (if zopt (znam P (12 * u + zplc P u i)) = x then some (zN (zmid P (12 * u + zplc P u i)), m) else fX9_named_2 N n 88 (zN u) x (zN (i + 1)) m) else fX9_named_2 N n 88 (zN u) x (zN (i + 1)) m := fun b hb => by
      rw [fX9_named_2]
      unfold fX9_named_46 fX9_named_60
      have h3 : ¬ zcnt P u ≤ i := by omega
      by_cases hk3 : zknd P (12 * u + zplc P u i) = 3
      · rw [hk3] at e0 hb
        simp (disch := omega) only [zv, zN_lit, yo_unit, zca, hc, zN_le, h3, if_false, yo_memb, hp, e0, zN_eq, Nat.reduceEqDiff, zN_add]
        rw [hb]
        rfl
      · have y1' := y1 hk3
        rw [hme]
        have hcs : zknd P (12 * u + zplc P u i) = 0 ∨ zknd P (12 * u + zplc P u i) = 1 ∨ zknd P (12 * u + zplc P u i) = 2 ∨ zknd P (12 * u + zplc P u i) = 4 := by omega
        rw [hb]
        rcases hcs with e | e | e | e <;> rw [e] at e0 ⊢ <;> simp (disch := omega) only [zv, zN_lit, yo_unit, zca, hc, zN_le, h3, if_false, if_true, yo_memb, hp, e0, zN_eq, yo_mem, y1', Nat.reduceEqDiff, Nat.one_ne_zero, zN_add, decide_true, decide_false, or_false, false_or, or_true, true_or, or_self, Bool.false_eq_true]
    by_cases hnk : zknd P (12 * u + zplc P u i) = 0 ∨ zknd P (12 * u + zplc P u i) = 1 ∨ zknd P (12 * u + zplc P u i) = 4
    · rw [hstep true (decide_eq_true hnk).symm, if_pos rfl]
      obtain ⟨a, hna⟩ := Option.isSome_iff_exists.mp ((hw.2.2.2 _ hok).2.2.2.1 hnk)
      have ha := h26 a hna
      rw [hna, show zopt (some a) = zN a from rfl]
      by_cases e : zN a = x
      · rw [if_pos e]
        exact Or.inl ⟨_, a, ⟨hok, hnk⟩, hdv, hna, e.symm, rfl⟩
      · rw [if_neg e]
        exact hskip (fun b _ hb => by rw [hna] at hb; injection hb with hb; rw [← hb]; exact fun q => e q.symm)
    · rw [hstep false (decide_eq_false hnk).symm, if_neg (by decide)]
      exact hskip (fun a h _ => absurd h.2 hnk)
end UE
