/-! ===== w: orders, step by step ===== -/
/-- what is no unit stays as it is -/
def zKp (P : zP) (v : Nat) (T : Nat → zS → zR) : Prop := ∀ u s, u < zn P → zst (T u s).2.2 v = zst s v
def zKpC (P : zP) (v : Nat) (C : Nat → zS → zR) : Prop := ∀ x s, zok P x → zknd P x = 4 → zst (C x s).2.2 v = zst s v
theorem zKp_bind {w y : Nat} {r : zR} {k : Int32 → zS → zR} (h1 : zst r.2.2 w = y) (h2 : r.1 = 0 → zst (k r.2.1 r.2.2).2.2 w = zst r.2.2 w) : zst (zbind r k).2.2 w = y := by
  by_cases h0 : r.1 = 0
  · rw [zbind_p h0, h2 h0, h1]
  · rw [zbind_n h0, h1]
section WD
variable {P : zP} {T C : Nat → zS → zR} {w : Nat}
theorem zKp_term (hT : zKp P w T) (hC : zKpC P w C) {c : zCode} (hc : (c.1 = 1 → zok P c.2 ∧ zknd P c.2 = 1) ∧ (c.1 = 2 → zok P c.2 ∧ zknd P c.2 = 4)) (s : zS) : zst (zTerm P T C c s).2.2 w = zst s w := by
  unfold zTerm
  by_cases h : zwk s < 3000
  · rw [if_pos h]
    by_cases c0 : c.1 = 0
    · rw [if_pos c0]; rfl
    · rw [if_neg c0]
      by_cases c1 : c.1 = 1
      · rw [if_pos c1]
        exact zKp_bind (hT _ _ (hc.1 c1).1.1) (fun _ => zK1_note _ _)
      · rw [if_neg c1]
        by_cases c2 : c.1 = 2
        · rw [if_pos c2]
          exact zKp_bind (hT _ _ (hc.2 c2).1.1) (fun _ => hC _ _ (hc.2 c2).1 (hc.2 c2).2)
        · rw [if_neg c2]; rfl
  · rw [if_neg h]
theorem zKp_ev (hT : zKp P w T) (hC : zKpC P w C) : ∀ (l : List zCode) (v : List Int32) (s : zS), ycok P l → zst (zEv P T C l v s).2.2 w = zst s w
  | [], _, _, _ => rfl
  | c :: cs, v, s, h => by
    have h' : ycok P cs := fun q hq => h q (List.mem_cons_of_mem _ hq)
    unfold zEv
    split
    · exact zKp_ev hT hC cs _ s h'
    · exact zKp_bind (zKp_term hT hC (h c List.mem_cons_self) s) (fun _ => zKp_ev hT hC cs _ _ h')
theorem zKp_do (hT : zKp P w T) (hC : zKpC P w C) {d : zDeed} (hd : zdok P d) (s : zS) : zst (zDo P T C d s).2.2 w = zst s w := by
  unfold zDo
  refine zKp_bind (zKp_ev hT hC _ _ _ hd.1.2) (fun _ => ?_)
  cases hd2 : d.2 with
  | none => rfl
  | some m =>
    refine zKp_bind (hT _ _ (hd.2 m hd2).1.1) (fun _ => ?_)
    split <;> rfl
theorem zKp_dos (hT : zKp P w T) (hC : zKpC P w C) : ∀ (l : List zDeed) (v : Int32) (s : zS), (∀ d ∈ l, zdok P d) → zst (zDos P T C l v s).2.2 w = zst s w
  | [], _, _, _ => rfl
  | d :: ds, v, s, h => by
    unfold zDos
    exact zKp_bind (zKp_do hT hC (h d List.mem_cons_self) s) (fun _ => zKp_dos hT hC ds _ _ (fun e he => h e (List.mem_cons_of_mem _ he)))
theorem zKp_mem (hw : zwf P) (hT : zKp P w T) (hC : zKpC P w C) {x : Nat} (hx : zok P x) (s : zS) : zst (zMem P T C x s).2.2 w = zst s w := by
  unfold zMem
  split
  · cases hi : zini P x with
    | none => rfl
    | some d =>
      refine zKp_bind (zKp_do hT hC ((hw.2.2.1 x hx).2.1 d hi) s) (fun _ => ?_)
      by_cases e : zknd P x = 1
      · rw [if_pos e]; rfl
      · rw [if_neg e]
  · rfl
theorem zKp_mems (hw : zwf P) (hT : zKp P w T) (hC : zKpC P w C) : ∀ (l : List Nat) (s : zS), (∀ x ∈ l, zok P x) → zst (zMems P T C l s).2.2 w = zst s w
  | [], _, _ => rfl
  | x :: xs, s, h => by
    unfold zMems
    exact zKp_bind (zKp_mem hw hT hC (h x List.mem_cons_self) s) (fun _ => zKp_mems hw hT hC xs _ (fun e he => h e (List.mem_cons_of_mem _ he)))
end WD
theorem zKp_L {P : zP} (hw : zwf P) {w : Nat} (hv : zn P ≤ w) : ∀ k, zKp P w (zL P k).1 ∧ zKpC P w (zL P k).2
  | 0 => by
    refine ⟨fun u s _ => ?_, fun _ _ _ _ => rfl⟩
    show zst (if zst s u = 0 then _ else _ : zR).2.2 w = _
    split
    · rfl
    · split <;> rfl
  | k + 1 => by
    obtain ⟨hT, hC⟩ := zKp_L hw hv k
    refine ⟨fun u s hu => ?_, fun x s hx hxk => ?_⟩
    · have hne : w ≠ u := by omega
      show zst (if zst s u = 0 then _ else _ : zR).2.2 w = _
      split
      · split
        · have hb : zst (zbind (match zabv P u with
            | none => (0, 0, zBegin P u s)
            | some a => (zL P k).1 a (zBegin P u s)) fun _ s1 => zMems P (zL P k).1 (zL P k).2 (zmbs P u) s1).2.2 w = zst s w := by
            have h1 : zst (zBegin P u s) w = zst s w := zset_ne _ _ hne
            refine zKp_bind ?_ (fun _ => zKp_mems hw hT hC _ _ (zmbs_ok hw hu))
            cases ha : zabv P u with
            | none => exact h1
            | some a => exact (hT _ _ ((hw.2.1 u hu).2.2.1 a ha)).trans h1
          generalize (zbind (match zabv P u with
            | none => (0, 0, zBegin P u s)
            | some a => (zL P k).1 a (zBegin P u s)) fun _ s1 => zMems P (zL P k).1 (zL P k).2 (zmbs P u) s1) = r at hb
          unfold zClose
          split
          · show zset (zst r.2.2) u 2 w = _
            rw [zset_ne _ _ hne]; exact hb
          · split
            · show zset (zst r.2.2) u 3 w = _
              rw [zset_ne _ _ hne]; exact hb
            · exact hb
        · rfl
      · split <;> rfl
    · show zst (zPop _).2.2 w = _
      have key := zKp_dos (P := P) hT hC (zfun P x) 0 (zs_opn s ((x / 12 * 100 + (znam P x).getD 0) :: zopn s)) (hw.2.2.1 x hx).2.2.1
      unfold zPop
      split
      · exact key
      · exact key
/-- looks: states of all units in one number -/
def zds (d : Nat) : Nat := if d = 0 then 0 else d + 1
def zdi (s : Nat) : Nat := if s = 0 then 0 else s - 1
def zLs (l : Nat) : Nat → Nat := fun u => if u < 7 then zds (l / 3 ^ u % 3) else 0
def zLk (p l : Nat) : zS := zs_st (zInit p) (zLs l)
def zlkr (st : Nat → Nat) : Nat → Nat
  | 0 => 0
  | d + 1 => zlkr st d * 3 + zdi (st (6 - d))
def zlook (st : Nat → Nat) : Nat := zlkr st 7
theorem zdi_lt {s : Nat} (h : s ≤ 3) : zdi s < 3 := by unfold zdi; split <;> omega
theorem zds_di {s : Nat} (h : s ≠ 1) : zds (zdi s) = s := by
  unfold zds zdi
  by_cases e : s = 0
  · rw [if_pos e, if_pos rfl, e]
  · rw [if_neg e, if_neg (by omega)]; omega
theorem zlook_eq (st : Nat → Nat) : zlook st = zdi (st 0) + 3 * zdi (st 1) + 9 * zdi (st 2) + 27 * zdi (st 3) + 81 * zdi (st 4) + 243 * zdi (st 5) + 729 * zdi (st 6) := by
  show ((((((0 * 3 + zdi (st 6)) * 3 + zdi (st 5)) * 3 + zdi (st 4)) * 3 + zdi (st 3)) * 3 + zdi (st 2)) * 3 + zdi (st 1)) * 3 + zdi (st 0) = _
  omega
theorem zlook_lt {st : Nat → Nat} (h : ∀ u, st u ≤ 3) : zlook st < 2187 := by
  rw [zlook_eq]
  have := zdi_lt (h 0); have := zdi_lt (h 1); have := zdi_lt (h 2); have := zdi_lt (h 3); have := zdi_lt (h 4); have := zdi_lt (h 5); have := zdi_lt (h 6)
  omega
theorem zLs_look {st : Nat → Nat} (h3 : ∀ u, st u ≤ 3) (h1 : ∀ u, st u ≠ 1) (h7 : ∀ u, 7 ≤ u → st u = 0) : zLs (zlook st) = st := by
  funext u
  unfold zLs
  by_cases hu : u < 7
  · rw [if_pos hu]
    have a0 := zdi_lt (h3 0); have a1 := zdi_lt (h3 1); have a2 := zdi_lt (h3 2); have a3 := zdi_lt (h3 3); have a4 := zdi_lt (h3 4); have a5 := zdi_lt (h3 5); have a6 := zdi_lt (h3 6)
    have key : zlook st / 3 ^ u % 3 = zdi (st u) := by
      rw [zlook_eq]
      have hc : u = 0 ∨ u = 1 ∨ u = 2 ∨ u = 3 ∨ u = 4 ∨ u = 5 ∨ u = 6 := by omega
      rcases hc with rfl | rfl | rfl | rfl | rfl | rfl | rfl <;> simp only [Nat.reducePow] <;> omega
    rw [key, zds_di (h1 u)]
  · rw [if_neg hu, h7 u (by omega)]
/-- a leap: much, surprises, work, look -/
def zLp (P : zP) (p l x : Nat) : Bool × zS := if x = 7 then zMain P (zLk p l) else (decide (((zL P 20).1 x (zLk p l)).1 = 2), ((zL P 20).1 x (zLk p l)).2.2)
def zlp (P : zP) (l x : Nat) : Nat × Nat × Nat := if (zLp P 0 l x).1 then (0, 3001, l) else ((zsur (zLp P 0 l x).2).length, zwk (zLp P 0 l x).2, zlook (zst (zLp P 0 l x).2))
theorem zLs_le (l u : Nat) : zLs l u ≤ 3 := by
  unfold zLs zds
  split
  · split <;> omega
  · omega
theorem zlp_p (P : zP) (p l x : Nat) : zlp P l x = if (zLp P p l x).1 then (0, 3001, l) else ((zsur (zLp P p l x).2).length, zwk (zLp P p l x).2, zlook (zst (zLp P p l x).2)) := by
  have h0 : zG true 0 0 (zLk 0 l) (zLk p l) := ⟨rfl, fun _ _ => rfl, rfl, rfl, rfl, fun _ => ⟨rfl, rfl, rfl, rfl, rfl⟩⟩
  have key : (zLp P 0 l x).1 = (zLp P p l x).1 ∧ zG true 0 0 (zLp P 0 l x).2 (zLp P p l x).2 := by
    unfold zLp
    by_cases e : x = 7
    · rw [if_pos e, if_pos e]
      rcases zBG_main (P := P) h0 with g | ⟨g, -⟩
      · exact g
      · cases g
    · rw [if_neg e, if_neg e]
      rcases (zKG_L (f := true) (w0 := 0) (n0 := 0) P 20).1 x _ _ h0 with ⟨g1, g2, -⟩ | ⟨g, -⟩
      · refine ⟨?_, g2⟩
        show decide _ = decide _
        rw [g1]
      · cases g
  obtain ⟨k1, k2, -, -, k3, k4, -⟩ := key
  unfold zlp
  rw [k1, k2, k3, k4, Nat.add_zero, Nat.add_zero]
/-- the way so far: look, work, surprises -/
def zsum (a : Nat × Nat × Nat) (q : Nat × Nat × Nat) : Nat := if a.2.1 + q.2.1 ≤ 3000 then a.2.2 + q.1 else 1000000
def zgo (P : zP) (a : Nat × Nat × Nat) (u : Nat) : Nat × Nat × Nat := ((zlp P a.1 u).2.2, a.2.1 + (zlp P a.1 u).2.1, zsum a (zlp P a.1 u))
def zend (P : zP) (a : Nat × Nat × Nat) : Nat := zsum a (zlp P a.1 7)
def zway (P : zP) (p : Nat) (us : List Nat) (a : Nat × Nat × Nat) : Prop := a.1 < 2187 ∧
  (((zTouches P us (zInit p)).1 = false ∧ zSi P (zTouches P us (zInit p)).2 ∧ zopn (zTouches P us (zInit p)).2 = [] ∧ (∀ v, zst (zTouches P us (zInit p)).2 v ≠ 1) ∧ (∀ v, 7 ≤ v → zst (zTouches P us (zInit p)).2 v = 0) ∧ zlook (zst (zTouches P us (zInit p)).2) = a.1 ∧ zwk (zTouches P us (zInit p)).2 = a.2.1 ∧ (zsur (zTouches P us (zInit p)).2).length = a.2.2)
  ∨ ((zTouches P us (zInit p)).1 = true ∧ 3000 < a.2.1 ∧ a.2.2 = 1000000))
theorem zTouches_snoc (P : zP) (u : Nat) : ∀ (us : List Nat) (s : zS), zTouches P (us ++ [u]) s = if (zTouches P us s).1 then zTouches P us s else (decide (((zL P 20).1 u (zTouches P us s).2).1 = 2), ((zL P 20).1 u (zTouches P us s).2).2.2)
  | [], s => by
    show (if ((zL P 20).1 u s).1 = 2 then (true, ((zL P 20).1 u s).2.2) else (false, ((zL P 20).1 u s).2.2)) = (decide (((zL P 20).1 u s).1 = 2), ((zL P 20).1 u s).2.2)
    by_cases e : ((zL P 20).1 u s).1 = 2
    · rw [if_pos e, decide_eq_true e]
    · rw [if_neg e, decide_eq_false e]
  | v :: us, s => by
    have e1 : ∀ l s, zTouches P (v :: l) s = if ((zL P 20).1 v s).1 = 2 then (true, ((zL P 20).1 v s).2.2) else zTouches P l ((zL P 20).1 v s).2.2 := fun _ _ => rfl
    rw [List.cons_append, e1, e1]
    by_cases e : ((zL P 20).1 v s).1 = 2
    · rw [if_pos e, if_pos e, if_pos rfl]
    · rw [if_neg e, if_neg e]
      exact zTouches_snoc P u us _
theorem zway_nil (P : zP) (p : Nat) (hp : p ≤ 10) : zway P p [] (0, 0, 0) :=
  ⟨by omega, Or.inl ⟨rfl, ⟨fun _ => Nat.zero_le _, Nat.zero_le _, fun x hx => (by cases hx), Nat.zero_le _, Nat.zero_le _, Nat.zero_le _, hp, by show 0 + zfree (fun _ => 0) ≤ 7; decide, fun q hq => (by cases hq)⟩, rfl, fun _ => (by show (0 : Nat) ≠ 1; omega), fun _ _ => rfl, (by show zlook (fun _ => 0) = 0; decide), rfl, rfl⟩⟩
theorem zG_way {P : zP} {s : zS} {a : Nat × Nat × Nat} (hS : zSi P s) (ho : zopn s = []) (h1 : ∀ v, zst s v ≠ 1) (h7 : ∀ v, 7 ≤ v → zst s v = 0) (hl : zlook (zst s) = a.1) (hw : zwk s = a.2.1) (hs : (zsur s).length = a.2.2) : zG false a.2.1 a.2.2 s (zLk 0 a.1) := by
  refine ⟨?_, fun x hx => absurd hx (h1 _), ho, ?_, ?_, fun g => by cases g⟩
  · show zst s = zLs a.1
    rw [← hl, zLs_look hS.1 h1 h7]
  · show zwk s = 0 + a.2.1
    omega
  · show (zsur s).length = 0 + a.2.2
    omega
theorem zlp_look {P : zP} (hw : zwf P) {l x : Nat} (hx : x < zn P) (hl : l < 2187) : (zlp P l x).2.2 < 2187 := by
  unfold zlp
  split
  · exact hl
  · refine zlook_lt ?_
    have hz := hw.1
    unfold zLp
    rw [if_neg (by omega)]
    have hS : zSi P (zLk 0 l) := ⟨zLs_le l, Nat.zero_le _, fun x hx => (by cases hx), Nat.zero_le _, Nat.zero_le _, Nat.zero_le _, Nat.zero_le _, (by
      show 0 + zfree _ ≤ 7
      unfold zfree zb
      repeat' split
      all_goals omega), fun q hq => (by cases hq)⟩
    exact ((zI_L hw 20).1 x (zLk 0 l) hx hS rfl).1.1
theorem zway_go {P : zP} (hw : zwf P) {p : Nat} {us : List Nat} {a : Nat × Nat × Nat} {u : Nat} (hu : u < zn P) (h : zway P p us a) : zway P p (us ++ [u]) (zgo P a u) := by
  obtain ⟨hl, h⟩ := h
  refine ⟨zlp_look hw hu hl, ?_⟩
  rw [zTouches_snoc]
  have hz := hw.1
  rcases h with ⟨e1, hS, ho, hn1, hn7, hlk, hwk, hsr⟩ | ⟨e1, e2, e3⟩
  · rw [e1]
    simp only [Bool.false_eq_true, if_false]
    generalize (zTouches P us (zInit p)).2 = s at *
    have hG := zG_way hS ho hn1 hn7 hlk hwk hsr
    have hRG := (zKG_L (f := false) (w0 := a.2.1) (n0 := a.2.2) P 20).1 u s _ hG
    have hol : (zopn s).length + 20 = 20 := by rw [ho]; rfl
    have hI := ((zI_L hw 20).1 u s hu hS hol).1
    have hO := (zKo_L P 20).1 u s
    have hK2 := (zK2_L P 20).1 u (zLk 0 a.1)
    have hN : ∀ v, ((zL P 20).1 u s).1 ≠ 2 → zst ((zL P 20).1 u s).2.2 v ≠ 1 := fun v g1 g2 => hn1 v ((zKn_L P v 20).1 u s g1 g2)
    have hP : ∀ v, 7 ≤ v → zst ((zL P 20).1 u s).2.2 v = 0 := fun v hv => ((zKp_L hw (w := v) (by omega) 20).1 u s hu).trans (hn7 v hv)
    have hlp : zlp P a.1 u = if ((zL P 20).1 u (zLk 0 a.1)).1 = 2 then (0, 3001, a.1) else ((zsur ((zL P 20).1 u (zLk 0 a.1)).2.2).length, zwk ((zL P 20).1 u (zLk 0 a.1)).2.2, zlook (zst ((zL P 20).1 u (zLk 0 a.1)).2.2)) := by
      have hL : zLp P 0 a.1 u = (decide (((zL P 20).1 u (zLk 0 a.1)).1 = 2), ((zL P 20).1 u (zLk 0 a.1)).2.2) := if_neg (by omega)
      unfold zlp
      rw [hL]
      by_cases c : ((zL P 20).1 u (zLk 0 a.1)).1 = 2
      · rw [if_pos c, if_pos (decide_eq_true c)]
      · rw [if_neg c, if_neg (by simp [c])]
    unfold zgo zsum
    rw [hlp]
    generalize (zL P 20).1 u s = r at *
    generalize (zL P 20).1 u (zLk 0 a.1) = t at *
    have hw3 := hI.2.2.2.1
    rcases hRG with ⟨g1, ⟨b1, b2, b3, b4, b5, b6⟩, g3⟩ | ⟨-, g2, g3⟩
    · by_cases c : t.1 = 2
      · rw [if_pos c]
        refine Or.inr ⟨decide_eq_true (g1.trans c), ?_, ?_⟩
        · show 3000 < a.2.1 + 3001; omega
        · have hn : ¬ a.2.1 + 3001 ≤ 3000 := by omega
          simp only [hn, if_false]
      · rw [if_neg c]
        refine Or.inl ⟨decide_eq_false (fun g => c (g1.symm.trans g)), hI, (hO (fun g => c (g1.symm.trans g))).trans ho, fun v => hN v (fun g => c (g1.symm.trans g)), hP, ?_, ?_, ?_⟩
        · show zlook (zst r.2.2) = zlook (zst t.2.2); rw [b1]
        · show zwk r.2.2 = a.2.1 + zwk t.2.2; omega
        · show (zsur r.2.2).length = if a.2.1 + zwk t.2.2 ≤ 3000 then a.2.2 + (zsur t.2.2).length else 1000000
          rw [if_pos (by omega)]; omega
    · have hmuch : 3000 < a.2.1 + (if t.1 = 2 then (0, 3001, a.1) else ((zsur t.2.2).length, zwk t.2.2, zlook (zst t.2.2)) : Nat × Nat × Nat).2.1 := by
        by_cases c : t.1 = 2
        · rw [if_pos c]; show 3000 < a.2.1 + 3001; omega
        · rw [if_neg c]
          show 3000 < a.2.1 + zwk t.2.2
          rcases g3 with g | g
          · exact absurd g c
          · omega
      refine Or.inr ⟨decide_eq_true g2, hmuch, ?_⟩
      exact if_neg (by omega)
  · rw [if_pos e1]
    refine Or.inr ⟨e1, ?_, ?_⟩
    · show 3000 < a.2.1 + _; omega
    · show (if _ ≤ 3000 then _ else _) = _
      rw [if_neg (by omega)]
/-- what an order comes to -/
def zits (P : zP) (us : List Nat) : Nat := if (zAhead P 0 us).1 then 1000000 else (zsur (zAhead P 0 us).2).length
theorem zits_p (P : zP) (p : Nat) (us : List Nat) : zits P us = if (yAhead P p us).1 then 1000000 else (zsur (yAhead P p us).2).length := by
  obtain ⟨e1, e2⟩ := zAhead_eq P 0 p us
  unfold zits
  rw [e1, e2.2.2.2.2.1, Nat.add_zero]
theorem zway_end {P : zP} (hw : zwf P) {us : List Nat} {a : Nat × Nat × Nat} (h : zway P 0 us a) : zend P a = zits P us := by
  obtain ⟨hl, h⟩ := h
  unfold zend zits zAhead
  rcases h with ⟨e1, hS, ho, hn1, hn7, hlk, hwk, hsr⟩ | ⟨e1, e2, e3⟩
  · rw [e1]
    simp only [Bool.false_eq_true, if_false]
    generalize (zTouches P us (zInit 0)).2 = s at *
    have hG := zG_way hS ho hn1 hn7 hlk hwk hsr
    have hB := zBG_main (P := P) hG
    have hSt := (zSteps_ok hw (zstp P) (zs_sp s 0) (fun d hd => hw.2.2.2.2 d hd) (zSi_sp hS (by omega)) ho (by show 0 + _ ≤ 10; have := hw.2.2.2.1; omega)).1
    have hlp : zlp P a.1 7 = if (zMain P (zLk 0 a.1)).1 then (0, 3001, a.1) else ((zsur (zMain P (zLk 0 a.1)).2).length, zwk (zMain P (zLk 0 a.1)).2, zlook (zst (zMain P (zLk 0 a.1)).2)) := rfl
    rw [hlp]
    have hM : zSi P (zMain P s).2 := hSt
    have hw3 := hM.2.2.2.1
    unfold zsum
    generalize zMain P s = r at *
    generalize zMain P (zLk 0 a.1) = t at *
    rcases hB with ⟨g1, b1, b2, b3, b4, b5, b6⟩ | ⟨-, g2, g3⟩
    · rw [g1]
      by_cases c : t.1 = true
      · rw [if_pos c, if_pos c, if_neg (by show ¬ a.2.1 + 3001 ≤ 3000; omega)]
      · rw [if_neg c, if_neg c, if_pos (by show a.2.1 + zwk t.2 ≤ 3000; omega)]
        show a.2.2 + (zsur t.2).length = _
        omega
    · rw [if_pos g2]
      by_cases c : t.1 = true
      · rw [if_pos c, if_neg (by show ¬ a.2.1 + 3001 ≤ 3000; omega)]
      · rw [if_neg c]
        rcases g3 with g | g
        · exact absurd g c
        · rw [if_neg (by show ¬ a.2.1 + zwk t.2 ≤ 3000; omega)]
  · rw [if_pos e1, if_pos rfl]
    unfold zsum
    rw [if_neg (by omega)]
theorem zway_le {P : zP} {p : Nat} {us : List Nat} {a : Nat × Nat × Nat} (h : zway P p us a) : a.2.2 ≤ 1000000 := by
  rcases h.2 with ⟨e1, hS, ho, hn1, hn7, hlk, hwk, hsr⟩ | ⟨e1, e2, e3⟩
  · have h1 := hS.2.2.2.1
    have h2 := hS.2.2.2.2.1
    omega
  · omega
