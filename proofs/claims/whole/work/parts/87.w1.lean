/-! ===== w: runs that go alike ===== -/
/-- work only grows -/
def zKw (T : Nat → zS → zR) : Prop := ∀ u s, zwk s ≤ zwk (T u s).2.2
theorem zKw_bind {r : zR} {k : Int32 → zS → zR} {x : Nat} (h1 : x ≤ zwk r.2.2) (h2 : r.1 = 0 → zwk r.2.2 ≤ zwk (k r.2.1 r.2.2).2.2) : x ≤ zwk (zbind r k).2.2 := by
  by_cases h0 : r.1 = 0
  · rw [zbind_p h0]; exact Nat.le_trans h1 (h2 h0)
  · rw [zbind_n h0]; exact h1
section WA
variable {P : zP} {T C : Nat → zS → zR}
theorem zKw_note (x : Nat) (s : zS) : zwk (zNote P x s) = zwk s := by
  unfold zNote; split <;> rfl
theorem zKw_term1 (hT : zKw T) (hC : zKw C) (c : zCode) (s : zS) (h : zwk s < 3000) : zwk s + 1 ≤ zwk (zTerm P T C c s).2.2 := by
  unfold zTerm
  rw [if_pos h]
  split
  · exact Nat.le_refl _
  · split
    · exact zKw_bind (hT _ (zs_wk s (zwk s + 1))) (fun _ => Nat.le_of_eq (zKw_note _ _).symm)
    · split
      · exact zKw_bind (hT _ (zs_wk s (zwk s + 1))) (fun _ => hC _ _)
      · exact Nat.le_refl _
theorem zKw_term (hT : zKw T) (hC : zKw C) (c : zCode) (s : zS) : zwk s ≤ zwk (zTerm P T C c s).2.2 := by
  by_cases h : zwk s < 3000
  · have := zKw_term1 (P := P) hT hC c s h; omega
  · unfold zTerm
    rw [if_neg h]; exact Nat.le_refl _
theorem zKw_ev (hT : zKw T) (hC : zKw C) : ∀ (l : List zCode) (v : List Int32) (s : zS), zwk s ≤ zwk (zEv P T C l v s).2.2
  | [], _, _ => Nat.le_refl _
  | c :: cs, v, s => by
    unfold zEv
    split
    · exact zKw_ev hT hC cs _ s
    · exact zKw_bind (zKw_term hT hC c s) (fun _ => zKw_ev hT hC cs _ _)
theorem zKw_do (hT : zKw T) (hC : zKw C) (d : zDeed) (s : zS) : zwk s ≤ zwk (zDo P T C d s).2.2 := by
  unfold zDo
  refine zKw_bind (zKw_ev hT hC _ _ _) (fun _ => ?_)
  cases d.2 with
  | none => exact Nat.le_refl _
  | some m =>
    refine zKw_bind (hT _ _) (fun _ => ?_)
    split
    · exact Nat.le_succ _
    · exact Nat.le_refl _
theorem zKw_dos (hT : zKw T) (hC : zKw C) : ∀ (l : List zDeed) (v : Int32) (s : zS), zwk s ≤ zwk (zDos P T C l v s).2.2
  | [], _, _ => Nat.le_refl _
  | d :: ds, v, s => by
    unfold zDos
    exact zKw_bind (zKw_do hT hC d s) (fun _ => zKw_dos hT hC ds _ _)
theorem zKw_mem (hT : zKw T) (hC : zKw C) (x : Nat) (s : zS) : zwk s ≤ zwk (zMem P T C x s).2.2 := by
  unfold zMem
  split
  · cases zini P x with
    | none => exact Nat.le_refl _
    | some d =>
      refine zKw_bind (zKw_do hT hC d s) (fun _ => ?_)
      by_cases e : zknd P x = 1
      · rw [if_pos e]; exact Nat.le_refl _
      · rw [if_neg e]; exact Nat.le_refl _
  · exact Nat.le_refl _
theorem zKw_mems (hT : zKw T) (hC : zKw C) : ∀ (l : List Nat) (s : zS), zwk s ≤ zwk (zMems P T C l s).2.2
  | [], _ => Nat.le_refl _
  | x :: xs, s => by
    unfold zMems
    exact zKw_bind (zKw_mem hT hC x s) (fun _ => zKw_mems hT hC xs _)
end WA
theorem zKw_close (u : Nat) (r : zR) : zwk (zClose u r).2.2 = zwk r.2.2 := by
  unfold zClose
  split
  · rfl
  · split <;> rfl
theorem zKw_L (P : zP) : ∀ k, zKw (zL P k).1 ∧ zKw (zL P k).2
  | 0 => by
    refine ⟨fun u s => ?_, fun _ _ => Nat.le_refl _⟩
    show zwk s ≤ zwk (if zst s u = 0 then _ else _ : zR).2.2
    split
    · exact Nat.le_refl _
    · split <;> exact Nat.le_refl _
  | k + 1 => by
    obtain ⟨hT, hC⟩ := zKw_L P k
    refine ⟨fun u s => ?_, fun x s => ?_⟩
    · show zwk s ≤ zwk (if zst s u = 0 then _ else _ : zR).2.2
      split
      · split
        · rw [zKw_close]
          refine zKw_bind ?_ (fun _ => zKw_mems hT hC _ _)
          split
          · exact Nat.le_succ _
          · exact Nat.le_trans (Nat.le_succ _) (hT _ (zBegin P u s))
        · exact Nat.le_refl _
      · split <;> exact Nat.le_refl _
    · show zwk s ≤ zwk (zPop _).2.2
      have key := zKw_dos (P := P) hT hC (zfun P x) 0 (zs_opn s ((x / 12 * 100 + (znam P x).getD 0) :: zopn s))
      unfold zPop
      split
      · exact key
      · exact key
/-- s goes as t does, w0 works and n0 surprises on; f: in all that is told of it -/
def zG (f : Bool) (w0 n0 : Nat) (s t : zS) : Prop :=
  zst s = zst t ∧ (∀ x, zst s (x / 12) = 1 → zmk s x = zmk t x) ∧ zopn s = zopn t ∧ zwk s = zwk t + w0 ∧ (zsur s).length = (zsur t).length + n0
  ∧ (f = true → w0 = 0 ∧ zval s = zval t ∧ zbeg s = zbeg t ∧ zlos s = zlos t ∧ zfs s = zfs t)
def zRG (f : Bool) (w0 n0 : Nat) (r q : zR) : Prop := (r.1 = q.1 ∧ zG f w0 n0 r.2.2 q.2.2 ∧ (f = true → r.2.1 = q.2.1)) ∨ (f = false ∧ r.1 = 2 ∧ (q.1 = 2 ∨ 3000 < zwk q.2.2 + w0))
section WB
variable {f : Bool} {w0 n0 : Nat} {P : zP} {T C T' C' : Nat → zS → zR}
theorem zRG_bind {r q : zR} {k k' : Int32 → zS → zR} (h : zRG f w0 n0 r q) (h2 : ∀ v v' s t, (f = true → v = v') → zG f w0 n0 s t → zRG f w0 n0 (k v s) (k' v' t)) (h3 : q.1 = 0 → zwk q.2.2 ≤ zwk (k' q.2.1 q.2.2).2.2) : zRG f w0 n0 (zbind r k) (zbind q k') := by
  rcases h with ⟨e1, e2, e3⟩ | ⟨e1, e2, e3⟩
  · by_cases e : q.1 = 0
    · rw [zbind_p e, zbind_p (e1.trans e)]
      exact h2 _ _ _ _ e3 e2
    · rw [zbind_n e, zbind_n (fun g => e (e1.symm.trans g))]
      exact Or.inl ⟨e1, e2, e3⟩
  · refine Or.inr ⟨e1, ?_, ?_⟩
    · rw [zbind_n (by omega)]; exact e2
    · by_cases e : q.1 = 0
      · rw [zbind_p e]
        have := h3 e
        omega
      · rw [zbind_n e]; exact e3
theorem zRG_spend {s t : zS} {A A' : zR} (h : zG f w0 n0 s t) (hA : zwk s < 3000 → zRG f w0 n0 A A') (hm : zwk t < 3000 → zwk t + 1 ≤ zwk A'.2.2) : zRG f w0 n0 (if zwk s < 3000 then A else (2, 0, s)) (if zwk t < 3000 then A' else (2, 0, t)) := by
  have hw := h.2.2.2.1
  by_cases e : zwk s < 3000
  · rw [if_pos e, if_pos (by omega)]
    exact hA e
  · rw [if_neg e]
    by_cases e' : zwk t < 3000
    · rw [if_pos e']
      refine Or.inr ⟨?_, rfl, Or.inr ?_⟩
      · cases f with
        | false => rfl
        | true => have := (h.2.2.2.2.2 rfl).1; omega
      · have := hm e'; omega
    · rw [if_neg e']
      exact Or.inl ⟨rfl, h, fun _ => rfl⟩
theorem zG_wk {s t : zS} (h : zG f w0 n0 s t) : zG f w0 n0 (zs_wk s (zwk s + 1)) (zs_wk t (zwk t + 1)) := by
  obtain ⟨a1, a2, a3, a4, a5, a6⟩ := h
  refine ⟨a1, a2, a3, ?_, a5, a6⟩
  show zwk s + 1 = zwk t + 1 + w0
  omega
theorem zG_early {s t : zS} (h : zG f w0 n0 s t) (x : Nat) : zEarly P x s = zEarly P x t := by
  obtain ⟨a1, a2, -⟩ := h
  unfold zEarly
  rw [← a1]
  by_cases e : zst s (x / 12) = 1
  · rw [a2 x e]
  · have : (zst s (x / 12) == 1) = false := by simp [e]
    rw [this]; rfl
theorem zG_note {s t : zS} (h : zG f w0 n0 s t) (x : Nat) : zG f w0 n0 (zNote P x s) (zNote P x t) := by
  have he := zG_early (P := P) h x
  unfold zNote
  rw [he]
  obtain ⟨a1, a2, a3, a4, a5, a6⟩ := h
  by_cases e : zEarly P x t = true
  · rw [if_pos e, if_pos e]
    refine ⟨a1, a2, a3, a4, ?_, a6⟩
    show (zsur s).length + 1 = (zsur t).length + 1 + n0
    omega
  · rw [if_neg e, if_neg e]
    exact ⟨a1, a2, a3, a4, a5, a6⟩
theorem zG_fl {s t : zS} {x y : Nat × Int32 × Nat} (h : zG f w0 n0 s t) : zG f w0 n0 (zs_fl s x) (zs_fl t y) := h
def zKG (f : Bool) (w0 n0 : Nat) (T T' : Nat → zS → zR) : Prop := ∀ u s t, zG f w0 n0 s t → zRG f w0 n0 (T u s) (T' u t)
theorem zRG_term (hT : zKG f w0 n0 T T') (hC : zKG f w0 n0 C C') (kT : zKw T') (kC : zKw C') (c : zCode) (s t : zS) (h : zG f w0 n0 s t) : zRG f w0 n0 (zTerm P T C c s) (zTerm P T' C' c t) := by
  have hm := zKw_term1 (P := P) kT kC c t
  unfold zTerm at hm ⊢
  refine zRG_spend h (fun _ => ?_) (fun g => by have := hm g; rwa [if_pos g] at this)
  have h1 := zG_wk h
  by_cases c0 : c.1 = 0
  · rw [if_pos c0, if_pos c0]; exact Or.inl ⟨rfl, h1, fun _ => rfl⟩
  · rw [if_neg c0, if_neg c0]
    by_cases c1 : c.1 = 1
    · rw [if_pos c1, if_pos c1]
      refine zRG_bind (hT _ _ _ h1) (fun v v' s1 t1 hv g => Or.inl ⟨rfl, zG_note g _, fun hf => ?_⟩) (fun _ => Nat.le_of_eq (zKw_note _ _).symm)
      show zval s1 c.2 = zval t1 c.2
      rw [(g.2.2.2.2.2 hf).2.1]
    · rw [if_neg c1, if_neg c1]
      by_cases c2 : c.1 = 2
      · rw [if_pos c2, if_pos c2]
        exact zRG_bind (hT _ _ _ h1) (fun v v' s1 t1 hv g => hC _ _ _ g) (fun _ => kC _ _)
      · rw [if_neg c2, if_neg c2]
        exact Or.inl ⟨rfl, zG_fl h1, fun _ => rfl⟩
theorem zRG_ev (hT : zKG f w0 n0 T T') (hC : zKG f w0 n0 C C') (kT : zKw T') (kC : zKw C') : ∀ (l : List zCode) (v v' : List Int32) (s t : zS), (f = true → v = v') → zG f w0 n0 s t → zRG f w0 n0 (zEv P T C l v s) (zEv P T' C' l v' t)
  | [], v, v', s, t, hv, h => Or.inl ⟨rfl, h, fun hf => by rw [hv hf]; rfl⟩
  | c :: cs, v, v', s, t, hv, h => by
    by_cases c4 : 4 ≤ c.1
    · rw [zEv_op c4, zEv_op c4]
      exact zRG_ev hT hC kT kC cs _ _ s t (fun hf => by rw [hv hf]) h
    · rw [zEv_tm c4, zEv_tm c4]
      exact zRG_bind (zRG_term hT hC kT kC c s t h) (fun w w' s1 t1 hw g => zRG_ev hT hC kT kC cs _ _ s1 t1 (fun hf => by rw [hv hf, hw hf]) g) (fun _ => zKw_ev kT kC _ _ _)
theorem zRG_do (hT : zKG f w0 n0 T T') (hC : zKG f w0 n0 C C') (kT : zKw T') (kC : zKw C') (d : zDeed) (s t : zS) (h : zG f w0 n0 s t) : zRG f w0 n0 (zDo P T C d s) (zDo P T' C' d t) := by
  unfold zDo
  refine zRG_bind (zRG_ev hT hC kT kC d.1 [] [] s t (fun _ => rfl) h) (fun v v' s1 t1 hv g => ?_) (fun _ => ?_)
  · cases d.2 with
    | none => exact Or.inl ⟨rfl, g, hv⟩
    | some m =>
      refine zRG_bind (hT _ _ _ g) (fun _ _ s2 t2 _ g2 => zRG_spend g2 (fun _ => Or.inl ⟨rfl, ?_, hv⟩) (fun _ => Nat.le_refl _)) (fun _ => ?_)
      · have he := zG_early (P := P) g2 m
        obtain ⟨a1, a2, a3, a4, a5, a6⟩ := g2
        refine ⟨a1, a2, a3, ?_, a5, fun hf => ?_⟩
        · show zwk s2 + 1 = zwk t2 + 1 + w0; omega
        · obtain ⟨b1, b2, b3, b4, b5⟩ := a6 hf
          refine ⟨b1, ?_, b3, ?_, b5⟩
          · show zset (zval s2) m v = zset (zval t2) m v'
            rw [b2, hv hf]
          · show (if zEarly P m s2 = true then zlos s2 + 1 else zlos s2) = (if zEarly P m t2 = true then zlos t2 + 1 else zlos t2)
            rw [he, b4]
      · split
        · exact Nat.le_succ _
        · exact Nat.le_refl _
  · cases d.2 with
    | none => exact Nat.le_refl _
    | some m =>
      refine zKw_bind (kT _ _) (fun _ => ?_)
      split
      · exact Nat.le_succ _
      · exact Nat.le_refl _
theorem zRG_dos (hT : zKG f w0 n0 T T') (hC : zKG f w0 n0 C C') (kT : zKw T') (kC : zKw C') : ∀ (l : List zDeed) (v v' : Int32) (s t : zS), (f = true → v = v') → zG f w0 n0 s t → zRG f w0 n0 (zDos P T C l v s) (zDos P T' C' l v' t)
  | [], v, v', s, t, hv, h => Or.inl ⟨rfl, h, hv⟩
  | d :: ds, v, v', s, t, hv, h => by
    unfold zDos
    exact zRG_bind (zRG_do hT hC kT kC d s t h) (fun w w' s1 t1 hw g => zRG_dos hT hC kT kC ds w w' s1 t1 hw g) (fun _ => zKw_dos kT kC _ _ _)
theorem zRG_mem (hT : zKG f w0 n0 T T') (hC : zKG f w0 n0 C C') (kT : zKw T') (kC : zKw C') (x : Nat) (s t : zS) (h : zG f w0 n0 s t) : zRG f w0 n0 (zMem P T C x s) (zMem P T' C' x t) := by
  unfold zMem
  by_cases e : zon P x = true
  · rw [if_pos e, if_pos e]
    cases zini P x with
    | none => exact Or.inl ⟨rfl, h, fun _ => rfl⟩
    | some d =>
      refine zRG_bind (zRG_do hT hC kT kC d s t h) (fun v v' s1 t1 hv g => Or.inl ⟨rfl, ?_, fun _ => rfl⟩) (fun _ => ?_)
      · by_cases e1 : zknd P x = 1
        · show zG f w0 n0 (if zknd P x = 1 then _ else _) (if zknd P x = 1 then _ else _)
          rw [if_pos e1, if_pos e1]
          obtain ⟨a1, a2, a3, a4, a5, a6⟩ := g
          refine ⟨a1, fun y hy => ?_, a3, a4, a5, fun hf => ?_⟩
          · show zset (zmk s1) x true y = zset (zmk t1) x true y
            by_cases ey : y = x
            · rw [ey, zset_eq, zset_eq]
            · rw [zset_ne _ _ ey, zset_ne _ _ ey]; exact a2 y hy
          · obtain ⟨b1, b2, b3, b4, b5⟩ := a6 hf
            refine ⟨b1, ?_, b3, b4, b5⟩
            show zset (zval s1) x v = zset (zval t1) x v'
            rw [b2, hv hf]
        · show zG f w0 n0 (if zknd P x = 1 then _ else _) (if zknd P x = 1 then _ else _)
          rw [if_neg e1, if_neg e1]
          exact g
      · by_cases e1 : zknd P x = 1
        · rw [if_pos e1]; exact Nat.le_refl _
        · rw [if_neg e1]; exact Nat.le_refl _
  · rw [if_neg e, if_neg e]
    exact Or.inl ⟨rfl, h, fun _ => rfl⟩
theorem zRG_mems (hT : zKG f w0 n0 T T') (hC : zKG f w0 n0 C C') (kT : zKw T') (kC : zKw C') : ∀ (l : List Nat) (s t : zS), zG f w0 n0 s t → zRG f w0 n0 (zMems P T C l s) (zMems P T' C' l t)
  | [], s, t, h => Or.inl ⟨rfl, h, fun _ => rfl⟩
  | x :: xs, s, t, h => by
    unfold zMems
    exact zRG_bind (zRG_mem hT hC kT kC x s t h) (fun _ _ s1 t1 _ g => zRG_mems hT hC kT kC xs s1 t1 g) (fun _ => zKw_mems kT kC _ _)
theorem zRG_close {r q : zR} (u : Nat) (h : zRG f w0 n0 r q) (hr : r.1 ≤ 2) : zRG f w0 n0 (zClose u r) (zClose u q) := by
  unfold zClose
  rcases h with ⟨e1, ⟨a1, a2, a3, a4, a5, a6⟩, e3⟩ | ⟨e1, e2, e3⟩
  · by_cases c0 : r.1 = 0
    · rw [if_pos c0, if_pos (e1.symm.trans c0)]
      refine Or.inl ⟨rfl, ⟨?_, fun x hx => ?_, ?_, a4, a5, a6⟩, fun _ => rfl⟩
      · show zset (zst r.2.2) u 2 = zset (zst q.2.2) u 2
        rw [a1]
      · by_cases ex : x / 12 = u
        · have hx' : zset (zst r.2.2) u 2 (x / 12) = 1 := hx
          rw [ex, zset_eq] at hx'; omega
        · have hx' : zset (zst r.2.2) u 2 (x / 12) = 1 := hx
          rw [zset_ne _ _ ex] at hx'
          exact a2 x hx'
      · show (zopn r.2.2).tail = (zopn q.2.2).tail
        rw [a3]
    · rw [if_neg c0, if_neg (fun g => c0 (e1.trans g))]
      by_cases c1 : r.1 = 1
      · rw [if_pos c1, if_pos (e1.symm.trans c1)]
        refine Or.inl ⟨rfl, ⟨?_, fun x hx => ?_, ?_, a4, a5, a6⟩, fun _ => rfl⟩
        · show zset (zst r.2.2) u 3 = zset (zst q.2.2) u 3
          rw [a1]
        · by_cases ex : x / 12 = u
          · have hx' : zset (zst r.2.2) u 3 (x / 12) = 1 := hx
            rw [ex, zset_eq] at hx'; omega
          · have hx' : zset (zst r.2.2) u 3 (x / 12) = 1 := hx
            rw [zset_ne _ _ ex] at hx'
            exact a2 x hx'
        · show (zopn r.2.2).tail = (zopn q.2.2).tail
          rw [a3]
      · rw [if_neg c1, if_neg (fun g => c1 (e1.trans g))]
        exact Or.inl ⟨e1, ⟨a1, a2, a3, a4, a5, a6⟩, e3⟩
  · rw [if_neg (by omega), if_neg (by omega)]
    refine Or.inr ⟨e1, e2, ?_⟩
    by_cases c0 : q.1 = 0
    · rw [if_pos c0]; exact Or.inr (by rcases e3 with g | g; omega; exact g)
    · rw [if_neg c0]
      by_cases c1 : q.1 = 1
      · rw [if_pos c1]; exact Or.inr (by rcases e3 with g | g; omega; exact g)
      · rw [if_neg c1]; exact e3
theorem zG_begin {s t : zS} (u : Nat) (h : zG f w0 n0 s t) : zG f w0 n0 (zBegin P u s) (zBegin P u t) := by
  obtain ⟨a1, a2, a3, a4, a5, a6⟩ := h
  refine ⟨?_, fun x hx => ?_, ?_, ?_, a5, fun hf => ?_⟩
  · show zset (zst s) u 1 = zset (zst t) u 1
    rw [a1]
  · show (if x / 12 = u then false else zmk s x) = (if x / 12 = u then false else zmk t x)
    by_cases ex : x / 12 = u
    · rw [if_pos ex, if_pos ex]
    · rw [if_neg ex, if_neg ex]
      have hx' : zset (zst s) u 1 (x / 12) = 1 := hx
      rw [zset_ne _ _ ex] at hx'
      exact a2 x hx'
  · show (u * 100 + 99) :: zopn s = (u * 100 + 99) :: zopn t
    rw [a3]
  · show zwk s + 1 = zwk t + 1 + w0
    omega
  · obtain ⟨b1, b2, b3, b4, b5⟩ := a6 hf
    refine ⟨b1, b2, ?_, b4, b5⟩
    show u :: zbeg s = u :: zbeg t
    rw [b3]
end WB
theorem zKG_L {f : Bool} {w0 n0 : Nat} (P : zP) : ∀ k, zKG f w0 n0 (zL P k).1 (zL P k).1 ∧ zKG f w0 n0 (zL P k).2 (zL P k).2
  | 0 => by
    refine ⟨fun u s t h => ?_, fun _ s t h => Or.inl ⟨rfl, h, fun _ => rfl⟩⟩
    show zRG f w0 n0 (if zst s u = 0 then _ else _ : zR) (if zst t u = 0 then _ else _ : zR)
    rw [h.1]
    by_cases e0 : zst t u = 0
    · rw [if_pos e0, if_pos e0]; exact Or.inl ⟨rfl, h, fun _ => rfl⟩
    · rw [if_neg e0, if_neg e0]
      by_cases e3 : zst t u = 3
      · rw [if_pos e3, if_pos e3]; exact Or.inl ⟨rfl, h, fun _ => rfl⟩
      · rw [if_neg e3, if_neg e3]; exact Or.inl ⟨rfl, h, fun _ => rfl⟩
  | k + 1 => by
    obtain ⟨hT, hC⟩ := zKG_L (f := f) (w0 := w0) (n0 := n0) P k
    obtain ⟨kT, kC⟩ := zKw_L P k
    obtain ⟨kT1, kC1⟩ := zK2_L P k
    refine ⟨fun u s t h => ?_, fun x s t h => ?_⟩
    · show zRG f w0 n0 (if zst s u = 0 then _ else _ : zR) (if zst t u = 0 then _ else _ : zR)
      rw [h.1]
      by_cases e0 : zst t u = 0
      · rw [if_pos e0, if_pos e0]
        refine zRG_spend h (fun _ => zRG_close u (zRG_bind ?_ (fun _ _ s1 t1 _ g => zRG_mems hT hC kT kC _ s1 t1 g) (fun _ => zKw_mems kT kC _ _)) ?_) (fun _ => ?_)
        · cases zabv P u with
          | none => exact Or.inl ⟨rfl, zG_begin (P := P) u h, fun _ => rfl⟩
          | some a => exact hT a _ _ (zG_begin (P := P) u h)
        · refine zB2 ?_ (fun _ _ => zK2_mems kT1 kC1 _ _)
          cases zabv P u with
          | none => exact Nat.zero_le _
          | some a => exact kT1 _ _
        · rw [zKw_close]
          refine zKw_bind ?_ (fun _ => zKw_mems kT kC _ _)
          cases zabv P u with
          | none => exact Nat.le_refl _
          | some a => exact kT a (zBegin P u t)
      · rw [if_neg e0, if_neg e0]
        by_cases e3 : zst t u = 3
        · rw [if_pos e3, if_pos e3]; exact Or.inl ⟨rfl, h, fun _ => rfl⟩
        · rw [if_neg e3, if_neg e3]; exact Or.inl ⟨rfl, h, fun _ => rfl⟩
    · show zRG f w0 n0 (zPop _) (zPop _)
      have hG : zG f w0 n0 (zs_opn s ((x / 12 * 100 + (znam P x).getD 0) :: zopn s)) (zs_opn t ((x / 12 * 100 + (znam P x).getD 0) :: zopn t)) := by
        obtain ⟨a1, a2, a3, a4, a5, a6⟩ := h
        refine ⟨a1, a2, ?_, a4, a5, a6⟩
        show _ :: zopn s = _ :: zopn t
        rw [a3]
      have := zRG_dos hT hC kT kC (zfun P x) 0 0 _ _ (fun _ => rfl) hG (P := P)
      generalize zDos P (zL P k).1 (zL P k).2 (zfun P x) 0 (zs_opn s ((x / 12 * 100 + (znam P x).getD 0) :: zopn s)) = r at this ⊢
      generalize zDos P (zL P k).1 (zL P k).2 (zfun P x) 0 (zs_opn t ((x / 12 * 100 + (znam P x).getD 0) :: zopn t)) = q at this ⊢
      unfold zPop
      rcases this with ⟨e1, ⟨a1, a2, a3, a4, a5, a6⟩, e3⟩ | ⟨e1, e2, e3⟩
      · by_cases c : r.1 = 2
        · rw [if_pos c, if_pos (e1.symm.trans c)]
          exact Or.inl ⟨e1, ⟨a1, a2, a3, a4, a5, a6⟩, e3⟩
        · rw [if_neg c, if_neg (fun g => c (e1.trans g))]
          refine Or.inl ⟨e1, ⟨a1, a2, ?_, a4, a5, a6⟩, e3⟩
          show (zopn r.2.2).tail = (zopn q.2.2).tail
          rw [a3]
      · rw [if_pos e2]
        refine Or.inr ⟨e1, e2, ?_⟩
        by_cases c : q.1 = 2
        · rw [if_pos c]; exact e3
        · rw [if_neg c]; exact e3
