/-! ===== w: whole runs that go alike ===== -/
def zBG (f : Bool) (w0 n0 : Nat) (q r : Bool × zS) : Prop := (q.1 = r.1 ∧ zG f w0 n0 q.2 r.2) ∨ (f = false ∧ q.1 = true ∧ (r.1 = true ∨ 3000 < zwk r.2 + w0))
theorem zG_sp {f : Bool} {w0 n0 : Nat} {s t : zS} (x y : Nat) (h : zG f w0 n0 s t) : zG f w0 n0 (zs_sp s x) (zs_sp t y) := h
theorem zG_fs {f : Bool} {w0 n0 : Nat} {s t : zS} (h : zG f w0 n0 s t) : zG f w0 n0 (zs_fs s (zfs s + 1)) (zs_fs t (zfs t + 1)) := by
  obtain ⟨a1, a2, a3, a4, a5, a6⟩ := h
  refine ⟨a1, a2, a3, a4, a5, fun hf => ?_⟩
  obtain ⟨b1, b2, b3, b4, b5⟩ := a6 hf
  refine ⟨b1, b2, b3, b4, ?_⟩
  show zfs s + 1 = zfs t + 1
  rw [b5]
theorem zSteps_w (P : zP) : ∀ (l : List zDeed) (s : zS), zwk s ≤ zwk (zSteps P l s).2
  | [], _ => Nat.le_refl _
  | d :: ds, s => by
    obtain ⟨kT, kC⟩ := zKw_L P 20
    have h := zKw_do (P := P) kT kC d s
    rw [zSteps_c]
    split
    · exact h
    · refine Nat.le_trans ?_ (zSteps_w P ds _)
      refine Nat.le_trans h ?_
      show _ ≤ zwk (if _ then _ else _ : zS)
      split
      · exact Nat.le_refl _
      · exact Nat.le_refl _
theorem zBG_steps {f : Bool} {w0 n0 : Nat} (P : zP) : ∀ (l : List zDeed) (s t : zS), zG f w0 n0 s t → zBG f w0 n0 (zSteps P l s) (zSteps P l t)
  | [], s, t, h => Or.inl ⟨rfl, h⟩
  | d :: ds, s, t, h => by
    obtain ⟨hT, hC⟩ := zKG_L (f := f) (w0 := w0) (n0 := n0) P 20
    obtain ⟨kT, kC⟩ := zKw_L P 20
    have hd := zRG_do hT hC kT kC d s t h (P := P)
    rw [zSteps_c, zSteps_c]
    generalize zDo P (zL P 20).1 (zL P 20).2 d s = r at hd ⊢
    generalize zDo P (zL P 20).1 (zL P 20).2 d t = q at hd ⊢
    rcases hd with ⟨e1, e2, e3⟩ | ⟨e1, e2, e3⟩
    · by_cases c2 : r.1 = 2
      · rw [if_pos c2, if_pos (e1.symm.trans c2)]
        exact Or.inl ⟨rfl, zG_sp _ _ e2⟩
      · rw [if_neg c2, if_neg (fun g => c2 (e1.trans g))]
        refine zBG_steps P ds _ _ (zG_sp _ _ ?_)
        by_cases c1 : r.1 = 1
        · rw [if_pos c1, if_pos (e1.symm.trans c1)]
          exact zG_fs e2
        · rw [if_neg c1, if_neg (fun g => c1 (e1.trans g))]
          exact e2
    · rw [if_pos e2]
      refine Or.inr ⟨e1, rfl, ?_⟩
      by_cases c2 : q.1 = 2
      · rw [if_pos c2]; exact Or.inl rfl
      · rw [if_neg c2]
        have h1 := zSteps_w P ds (zs_sp (if q.1 = 1 then zs_fs q.2.2 (zfs q.2.2 + 1) else q.2.2) (zsp q.2.2 + 1))
        have h2 : zwk (zs_sp (if q.1 = 1 then zs_fs q.2.2 (zfs q.2.2 + 1) else q.2.2) (zsp q.2.2 + 1)) = zwk q.2.2 := by
          show zwk (if q.1 = 1 then zs_fs q.2.2 (zfs q.2.2 + 1) else q.2.2) = _
          split <;> rfl
        rw [h2] at h1
        refine Or.inr ?_
        rcases e3 with g | g
        · exact absurd g c2
        · omega
theorem zBG_main {f : Bool} {w0 n0 : Nat} {P : zP} {s t : zS} (h : zG f w0 n0 s t) : zBG f w0 n0 (zMain P s) (zMain P t) := zBG_steps P (zstp P) _ _ (zG_sp 0 0 h)
theorem zBG_touches {P : zP} : ∀ (l : List Nat) (s t : zS), zG true 0 0 s t → (zTouches P l s).1 = (zTouches P l t).1 ∧ zG true 0 0 (zTouches P l s).2 (zTouches P l t).2
  | [], s, t, h => ⟨rfl, h⟩
  | u :: l, s, t, h => by
    have hT := (zKG_L (f := true) (w0 := 0) (n0 := 0) P 20).1 u s t h
    have e1 : ∀ s, zTouches P (u :: l) s = if ((zL P 20).1 u s).1 = 2 then (true, ((zL P 20).1 u s).2.2) else zTouches P l ((zL P 20).1 u s).2.2 := fun _ => rfl
    rw [e1, e1]
    rcases hT with ⟨a1, a2, a3⟩ | ⟨a1, -⟩
    · by_cases c2 : ((zL P 20).1 u s).1 = 2
      · rw [if_pos c2, if_pos (a1.symm.trans c2)]
        exact ⟨rfl, a2⟩
      · rw [if_neg c2, if_neg (fun g => c2 (a1.trans g))]
        exact zBG_touches l _ _ a2
    · cases a1
/-- the step that is left over does not matter -/
theorem zAhead_eq (P : zP) (p p' : Nat) (us : List Nat) : (zAhead P p us).1 = (yAhead P p' us).1 ∧ zG true 0 0 (zAhead P p us).2 (yAhead P p' us).2 := by
  have h0 : zG true 0 0 (zInit p) (zInit p') := ⟨rfl, fun _ _ => rfl, rfl, rfl, rfl, fun _ => ⟨rfl, rfl, rfl, rfl, rfl⟩⟩
  obtain ⟨e1, e2⟩ := zBG_touches (P := P) us _ _ h0
  unfold zAhead yAhead
  by_cases c : (zTouches P us (zInit p)).1 = true
  · rw [if_pos c, if_pos (e1.symm.trans c)]
    exact ⟨rfl, zG_sp _ (zsp (zTouches P us (zInit p')).2) e2⟩
  · rw [if_neg c, if_neg (fun g => c (e1.trans g))]
    rcases zBG_main (P := P) e2 with g | ⟨g, -⟩
    · exact g
    · cases g
theorem zTell_G {P : zP} {q r : Bool × zS} (h1 : q.1 = r.1) (h2 : zG true 0 0 q.2 r.2) (w : Nat) : zTell P q w = zTell P r w := by
  obtain ⟨a1, a2, a3, a4, a5, a6⟩ := h2
  obtain ⟨b1, b2, b3, b4, b5⟩ := a6 rfl
  unfold zTell
  rw [h1, a1, a5, a4, b3, b4, b5, Nat.add_zero, Nat.add_zero]
/-- no new unit is left half begun -/
def zKn (v : Nat) (T : Nat → zS → zR) : Prop := ∀ u s, (T u s).1 ≠ 2 → zst (T u s).2.2 v = 1 → zst s v = 1
theorem zKn_bind {w : Nat} {r : zR} {k : Int32 → zS → zR} {s : zS} (h1 : r.1 ≠ 2 → zst r.2.2 w = 1 → zst s w = 1) (h2 : r.1 = 0 → (k r.2.1 r.2.2).1 ≠ 2 → zst (k r.2.1 r.2.2).2.2 w = 1 → zst r.2.2 w = 1) : (zbind r k).1 ≠ 2 → zst (zbind r k).2.2 w = 1 → zst s w = 1 := by
  by_cases h0 : r.1 = 0
  · rw [zbind_p h0]; exact fun g1 g2 => h1 (by omega) (h2 h0 g1 g2)
  · rw [zbind_n h0]; exact h1
section WC
variable {P : zP} {T C : Nat → zS → zR} {w : Nat}
theorem zKn_term (hT : zKn w T) (hC : zKn w C) (c : zCode) (s : zS) : (zTerm P T C c s).1 ≠ 2 → zst (zTerm P T C c s).2.2 w = 1 → zst s w = 1 := by
  unfold zTerm
  split
  · split
    · exact fun _ g => g
    · split
      · exact zKn_bind (s := zs_wk s (zwk s + 1)) (hT _ _) (fun _ _ g => (zK1_note _ _).symm.trans g)
      · split
        · exact zKn_bind (s := zs_wk s (zwk s + 1)) (hT _ _) (fun _ g1 g => hC _ _ g1 g)
        · exact fun _ g => g
  · exact fun _ g => g
theorem zKn_ev (hT : zKn w T) (hC : zKn w C) : ∀ (l : List zCode) (v : List Int32) (s : zS), (zEv P T C l v s).1 ≠ 2 → zst (zEv P T C l v s).2.2 w = 1 → zst s w = 1
  | [], _, _ => fun _ g => g
  | c :: cs, v, s => by
    unfold zEv
    split
    · exact zKn_ev hT hC cs _ s
    · exact zKn_bind (zKn_term hT hC c s) (fun _ => zKn_ev hT hC cs _ _)
theorem zKn_do (hT : zKn w T) (hC : zKn w C) (d : zDeed) (s : zS) : (zDo P T C d s).1 ≠ 2 → zst (zDo P T C d s).2.2 w = 1 → zst s w = 1 := by
  unfold zDo
  refine zKn_bind (zKn_ev hT hC _ _ _) (fun _ => ?_)
  cases d.2 with
  | none => exact fun _ g => g
  | some m =>
    refine zKn_bind (hT _ _) (fun _ => ?_)
    split
    · exact fun _ g => g
    · exact fun _ g => g
theorem zKn_dos (hT : zKn w T) (hC : zKn w C) : ∀ (l : List zDeed) (v : Int32) (s : zS), (zDos P T C l v s).1 ≠ 2 → zst (zDos P T C l v s).2.2 w = 1 → zst s w = 1
  | [], _, _ => fun _ g => g
  | d :: ds, v, s => by
    unfold zDos
    exact zKn_bind (zKn_do hT hC d s) (fun _ => zKn_dos hT hC ds _ _)
theorem zKn_mem (hT : zKn w T) (hC : zKn w C) (x : Nat) (s : zS) : (zMem P T C x s).1 ≠ 2 → zst (zMem P T C x s).2.2 w = 1 → zst s w = 1 := by
  unfold zMem
  split
  · cases zini P x with
    | none => exact fun _ g => g
    | some d =>
      refine zKn_bind (zKn_do hT hC d s) (fun _ => ?_)
      by_cases e : zknd P x = 1
      · rw [if_pos e]; exact fun _ g => g
      · rw [if_neg e]; exact fun _ g => g
  · exact fun _ g => g
theorem zKn_mems (hT : zKn w T) (hC : zKn w C) : ∀ (l : List Nat) (s : zS), (zMems P T C l s).1 ≠ 2 → zst (zMems P T C l s).2.2 w = 1 → zst s w = 1
  | [], _ => fun _ g => g
  | x :: xs, s => by
    unfold zMems
    exact zKn_bind (zKn_mem hT hC x s) (fun _ => zKn_mems hT hC xs _)
end WC
theorem zKn_L (P : zP) (w : Nat) : ∀ k, zKn w (zL P k).1 ∧ zKn w (zL P k).2
  | 0 => by
    refine ⟨fun u s => ?_, fun _ _ _ h => h⟩
    show (if zst s u = 0 then _ else _ : zR).1 ≠ 2 → zst (if zst s u = 0 then _ else _ : zR).2.2 w = 1 → _
    split
    · exact fun _ g => g
    · split <;> exact fun _ g => g
  | k + 1 => by
    obtain ⟨hT, hC⟩ := zKn_L P w k
    refine ⟨fun u s => ?_, fun x s => ?_⟩
    · show (if zst s u = 0 then _ else _ : zR).1 ≠ 2 → zst (if zst s u = 0 then _ else _ : zR).2.2 w = 1 → _
      split
      · split
        · have hb : (zbind (match zabv P u with
            | none => (0, 0, zBegin P u s)
            | some a => (zL P k).1 a (zBegin P u s)) fun _ s1 => zMems P (zL P k).1 (zL P k).2 (zmbs P u) s1).1 ≠ 2 → zst (zbind (match zabv P u with
            | none => (0, 0, zBegin P u s)
            | some a => (zL P k).1 a (zBegin P u s)) fun _ s1 => zMems P (zL P k).1 (zL P k).2 (zmbs P u) s1).2.2 w = 1 → zst (zBegin P u s) w = 1 := by
            refine zKn_bind ?_ (fun _ => zKn_mems hT hC _ _)
            cases zabv P u with
            | none => exact fun _ g => g
            | some a => exact hT _ _
          have hr : (zbind (match zabv P u with
            | none => (0, 0, zBegin P u s)
            | some a => (zL P k).1 a (zBegin P u s)) fun _ s1 => zMems P (zL P k).1 (zL P k).2 (zmbs P u) s1).1 ≤ 2 := by
            refine zB2 ?_ (fun _ _ => zK2_mems (zK2_L P k).1 (zK2_L P k).2 _ _)
            cases zabv P u with
            | none => exact Nat.zero_le _
            | some a => exact (zK2_L P k).1 _ _
          generalize (zbind (match zabv P u with
            | none => (0, 0, zBegin P u s)
            | some a => (zL P k).1 a (zBegin P u s)) fun _ s1 => zMems P (zL P k).1 (zL P k).2 (zmbs P u) s1) = r at hb hr
          unfold zClose
          by_cases eu : w = u
          · subst eu
            split
            · intro _ g
              have g' : zset (zst r.2.2) w 2 w = 1 := g
              rw [zset_eq] at g'; omega
            · split
              · intro _ g
                have g' : zset (zst r.2.2) w 3 w = 1 := g
                rw [zset_eq] at g'; omega
              · intro g1 g2
                omega
          · have hb2 : r.1 ≠ 2 → zst r.2.2 w = 1 → zst s w = 1 := fun g1 g2 => by
              have : zset (zst s) u 1 w = 1 := hb g1 g2
              rwa [zset_ne _ _ eu] at this
            split
            · intro _ g
              have g' : zset (zst r.2.2) u 2 w = 1 := g
              rw [zset_ne _ _ eu] at g'
              exact hb2 (by omega) g'
            · split
              · intro _ g
                have g' : zset (zst r.2.2) u 3 w = 1 := g
                rw [zset_ne _ _ eu] at g'
                exact hb2 (by omega) g'
              · exact hb2
        · exact fun _ g => g
      · split <;> exact fun _ g => g
    · show (zPop _).1 ≠ 2 → zst (zPop _).2.2 w = 1 → _
      have key := zKn_dos (P := P) hT hC (zfun P x) 0 (zs_opn s ((x / 12 * 100 + (znam P x).getD 0) :: zopn s))
      unfold zPop
      split
      · exact key
      · exact key
