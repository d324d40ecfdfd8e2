/-! ===== y: the reference's run does what the spec says ===== -/
def yq (b : Bool) (m m' : XM) (P : zP) (res : zR) : Prop :=
  yfq m m' ∧ res.1 ≤ 2
  ∧ (res.1 = 0 → yMr b m' P res.2.2 ∧ yMo m' res.2.2 ∧ gi m' 85 30 = zN 0)
  ∧ (res.1 = 1 → yMr b m' P res.2.2 ∧ yMo m' res.2.2 ∧ yMf m' res.2.2 ∧ gi m' 85 30 = zN 1)
  ∧ (res.1 = 2 → yMr b m' P res.2.2 ∧ gi m' 85 30 = zN 2)
def yQ (b : Bool) (m : XM) (P : zP) (res : zR) (vf : Prop) (o : Option (Int32 × XM)) : Prop := ∃ v m', o = some (v, m') ∧ yq b m m' P res ∧ (res.1 = 0 → vf → v = res.2.1)
def yV (b : Bool) (m : XM) (P : zP) (res : zR) (o : Option XM) : Prop := ∃ m', o = some m' ∧ yq b m m' P res
section YH
variable {b : Bool} {m m1 : XM} {P : zP} {res r1 : zR} {k : Int32 → zS → zR} {vf vf1 : Prop}
theorem yq_tr {m2 : XM} (h : yfq m m1) (q : yq b m1 m2 P res) : yq b m m2 P res := ⟨yfq_tr h q.1, q.2⟩
theorem yq_st (q : yq b m m1 P res) (e : res.1 ≠ 0) : ∃ j, j < 2 ∧ gi m1 85 30 = zN (j + 1) := by
  obtain ⟨-, h, -, h1, h2⟩ := q
  have : res.1 = 1 ∨ res.1 = 2 := by omega
  rcases this with g | g
  · exact ⟨0, by omega, (h1 g).2.2.2⟩
  · exact ⟨1, by omega, (h2 g).2⟩
theorem yQ_bind {o1 : Option (Int32 × XM)} {κ : Int32 → XM → Option (Int32 × XM)} (h1 : yQ b m P r1 vf1 o1)
    (h2 : ∀ v m1, r1.1 = 0 → yfq m m1 → yMr b m1 P r1.2.2 → yMo m1 r1.2.2 → gi m1 85 30 = zN 0 → (vf1 → v = r1.2.1) → yQ b m1 P (k r1.2.1 r1.2.2) vf (κ v m1))
    (h0 : ∀ v m1 j, yfq m m1 → j < 2 → gi m1 85 30 = zN (j + 1) → ∃ w, κ v m1 = some (w, m1)) : yQ b m P (zbind r1 k) vf (xca o1 κ) := by
  obtain ⟨v, m1, rfl, q, qv⟩ := h1
  by_cases e : r1.1 = 0
  · obtain ⟨a1, a2, a3⟩ := q.2.2.1 e
    obtain ⟨w, m2, p1, p2, p3⟩ := h2 v m1 e q.1 a1 a2 a3 (qv e)
    rw [zbind_p e]
    exact ⟨w, m2, p1, yq_tr q.1 p2, p3⟩
  · obtain ⟨j, j1, j2⟩ := yq_st q e
    obtain ⟨w, hw⟩ := h0 v m1 j q.1 j1 j2
    rw [zbind_n e]
    exact ⟨w, m1, hw, q, fun g => absurd g e⟩
theorem yQ_bindV {o1 : Option (Int32 × XM)} {κ : XM → Option (Int32 × XM)} (h1 : yQ b m P r1 vf1 o1)
    (h2 : ∀ m1, r1.1 = 0 → yfq m m1 → yMr b m1 P r1.2.2 → yMo m1 r1.2.2 → gi m1 85 30 = zN 0 → yQ b m1 P (k r1.2.1 r1.2.2) vf (κ m1))
    (h0 : ∀ m1 j, yfq m m1 → j < 2 → gi m1 85 30 = zN (j + 1) → ∃ w, κ m1 = some (w, m1)) : yQ b m P (zbind r1 k) vf (xcv (o1.map Prod.snd) κ) := by
  obtain ⟨v, m1, rfl, q, qv⟩ := h1
  by_cases e : r1.1 = 0
  · obtain ⟨a1, a2, a3⟩ := q.2.2.1 e
    obtain ⟨w, m2, p1, p2, p3⟩ := h2 m1 e q.1 a1 a2 a3
    rw [zbind_p e]
    exact ⟨w, m2, p1, yq_tr q.1 p2, p3⟩
  · obtain ⟨j, j1, j2⟩ := yq_st q e
    obtain ⟨w, hw⟩ := h0 m1 j q.1 j1 j2
    rw [zbind_n e]
    exact ⟨w, m1, hw, q, fun g => absurd g e⟩
theorem yV_bind {o1 : Option (Int32 × XM)} {κ : Int32 → XM → Option XM} (h1 : yQ b m P r1 vf1 o1)
    (h2 : ∀ v m1, r1.1 = 0 → yfq m m1 → yMr b m1 P r1.2.2 → yMo m1 r1.2.2 → gi m1 85 30 = zN 0 → (vf1 → v = r1.2.1) → yV b m1 P (k r1.2.1 r1.2.2) (κ v m1))
    (h0 : ∀ v m1 j, yfq m m1 → j < 2 → gi m1 85 30 = zN (j + 1) → κ v m1 = some m1) : yV b m P (zbind r1 k) (xca o1 κ) := by
  obtain ⟨v, m1, rfl, q, qv⟩ := h1
  by_cases e : r1.1 = 0
  · obtain ⟨a1, a2, a3⟩ := q.2.2.1 e
    obtain ⟨m2, p1, p2⟩ := h2 v m1 e q.1 a1 a2 a3 (qv e)
    rw [zbind_p e]
    exact ⟨m2, p1, yq_tr q.1 p2⟩
  · obtain ⟨j, j1, j2⟩ := yq_st q e
    rw [zbind_n e]
    exact ⟨m1, h0 v m1 j q.1 j1 j2, q⟩
theorem yV_bindV {o1 : Option (Int32 × XM)} {κ : XM → Option XM} (h1 : yQ b m P r1 vf1 o1)
    (h2 : ∀ m1, r1.1 = 0 → yfq m m1 → yMr b m1 P r1.2.2 → yMo m1 r1.2.2 → gi m1 85 30 = zN 0 → yV b m1 P (k r1.2.1 r1.2.2) (κ m1))
    (h0 : ∀ m1 j, yfq m m1 → j < 2 → gi m1 85 30 = zN (j + 1) → κ m1 = some m1) : yV b m P (zbind r1 k) (xcv (o1.map Prod.snd) κ) := by
  obtain ⟨v, m1, rfl, q, qv⟩ := h1
  by_cases e : r1.1 = 0
  · obtain ⟨a1, a2, a3⟩ := q.2.2.1 e
    obtain ⟨m2, p1, p2⟩ := h2 m1 e q.1 a1 a2 a3
    rw [zbind_p e]
    exact ⟨m2, p1, yq_tr q.1 p2⟩
  · obtain ⟨j, j1, j2⟩ := yq_st q e
    rw [zbind_n e]
    exact ⟨m1, h0 m1 j q.1 j1 j2, q⟩
theorem yQ_pre {o : Option (Int32 × XM)} (h : yfq m m1) (q : yQ b m1 P res vf o) : yQ b m P res vf o := by
  obtain ⟨v, m', p1, p2, p3⟩ := q
  exact ⟨v, m', p1, yq_tr h p2, p3⟩
theorem yV_pre {o : Option XM} (h : yfq m m1) (q : yV b m1 P res o) : yV b m P res o := by
  obtain ⟨m', p1, p2⟩ := q
  exact ⟨m', p1, yq_tr h p2⟩
theorem yq_ok {s : zS} {v : Int32} (h : yfq m m1) (h1 : yMr b m1 P s) (h2 : yMo m1 s) (h3 : gi m1 85 30 = zN 0) : yq b m m1 P (0, v, s) :=
  ⟨h, Nat.zero_le _, fun _ => ⟨h1, h2, h3⟩, fun g => (by cases g), fun g => (by cases g)⟩
theorem yMo_si {s : zS} {a j : Nat} {v : Int32} (h : yMo m s) (h1 : a ≠ 100) (h2 : a ≠ 101) (h3 : ¬ (a = 85 ∧ j = 28)) : yMo (si m a j v) s :=
  ⟨by rw [gi_ne (by omega)]; exact h.1, ysto_fr (fun k _ => ⟨gi_ne (by omega), gi_ne (by omega)⟩) h.2⟩
theorem yMR_wk {s : zS} (h : yMR b m P s) (hw : zwk s < 3000) : yMR b (si m 85 29 (zN (zwk s + 1))) P (zs_wk s (zwk s + 1)) :=
  ⟨zSi_wk h.1 hw, yMr_wk h.2.1, yMo_si h.2.2.1 (by omega) (by omega) (by omega), by rw [gi_ne (by omega)]; exact h.2.2.2⟩
theorem yq_much {s : zS} (h : yMR b m P s) : yq b m (si m 85 30 (zN 2)) P (2, 0, s) :=
  ⟨yfq_si (yfq_rf m), Nat.le_refl 2, fun g => (by cases g), fun g => (by cases g), fun _ => ⟨yMr_op (by omega) h.2.1, gi_si _ _ _ _⟩⟩
theorem yMr_fl {s : zS} {f : Nat × Int32 × Nat} (h : yMr b m P s) : yMr b m P (zs_fl s f) := h
theorem yq_fail {s : zS} {f : Nat} {v : Int32} (h : yMR b m P s) (hf : (f = 1 ∧ v = zM) ∨ f = 2) : yq b m (si (si (si (si m 85 30 (zN 1)) 85 35 (zN f)) 85 36 v) 85 37 (zN 0)) P (1, 0, zs_fl s (f, v, 0)) := by
  refine ⟨yfq_si (yfq_si (yfq_si (yfq_si (yfq_rf m)))), (by show 1 ≤ 2; omega), fun g => (by cases g), fun _ => ⟨?_, ?_, ⟨?_, ?_, ?_, hf⟩, ?_⟩, fun g => (by cases g)⟩
  · exact yMr_op (by omega) (yMr_op (by omega) (yMr_op (by omega) (yMr_op (by omega) h.2.1)))
  · exact yMo_si (yMo_si (yMo_si (yMo_si h.2.2.1 (by omega) (by omega) (by omega)) (by omega) (by omega) (by omega)) (by omega) (by omega) (by omega)) (by omega) (by omega) (by omega)
  · rw [gi_ne (by omega), gi_ne (by omega), gi_si]; rfl
  · rw [gi_ne (by omega), gi_si]; rfl
  · rw [gi_si]; rfl
  · rw [gi_ne (by omega), gi_ne (by omega), gi_ne (by omega), gi_si]
end YH
/-- sums: codes that leave one number -/
def zBal (P : zP) (T C : Nat → zS → zR) (l : List zCode) : Prop := ∀ r vs s, zEv P T C (l ++ r) vs s = zbind (zEv P T C l [] s) fun v s1 => zEv P T C r (v :: vs) s1
def zBal1 (P : zP) (T C : Nat → zS → zR) (l : List zCode) : Prop := ∀ r v vs s, zEv P T C (l ++ r) (v :: vs) s = zbind (zEv P T C l [v] s) fun w s1 => zEv P T C r (w :: vs) s1
theorem zbind_as (r : zR) (k1 k2 : Int32 → zS → zR) : zbind (zbind r k1) k2 = zbind r fun v s => zbind (k1 v s) k2 := by
  by_cases e : r.1 = 0
  · rw [zbind_p e, zbind_p e]
  · rw [zbind_n e, zbind_n e, zbind_n e]
theorem zbind_id (r : zR) : (zbind r fun v s => (0, v, s)) = r := by
  by_cases e : r.1 = 0
  · rw [zbind_p e, ← e]
  · rw [zbind_n e]
theorem zBal_tm {P : zP} {T C : Nat → zS → zR} {q : zCode} (h : ¬ 4 ≤ q.1) : zBal P T C [q] := fun r vs s => by
  rw [List.singleton_append, zEv_tm h, zEv_tm h, zbind_as]
  rfl
theorem zBal_ch {K : Nat → Int32} {P : zP} {T C : Nat → zS → zR} {Q : Nat → List zCode → Prop} (hQ : ∀ t l, Q t l → zBal P T C l) : ∀ (ts : List Nat) (p : Nat) (l : List zCode), yCh K Q ts p l → zBal1 P T C l
  | [], p, l, h => by
    rw [h.2]
    intro r v vs s
    rfl
  | t :: ts, p, l, h => by
    obtain ⟨-, -, lt, o, l', h1, h2, h3, -, rfl, h4⟩ := h
    have ih := zBal_ch hQ ts t l' h4
    intro r v vs s
    have e : ∀ r vs, zEv P T C ((lt ++ (o, 0) :: l') ++ r) (v :: vs) s = zbind (zEv P T C lt [] s) fun w s1 => zEv P T C (l' ++ r) (zJoin o v w :: vs) s1 := fun r vs => by
      rw [List.append_assoc, hQ t lt h1]
      congr 1
      funext w s1
      rw [List.cons_append, zEv_op h2]
      rfl
    rw [e r vs]
    have e0 := e [] []
    rw [List.append_nil, List.append_nil] at e0
    rw [e0, zbind_as]
    congr 1
    funext w s1
    rw [ih]
theorem zBal_sm {K : Nat → Int32} {P : zP} {T C : Nat → zS → zR} {Q : Nat → List zCode → Prop} (hQ : ∀ t l, Q t l → zBal P T C l) {f : Nat} {l : List zCode} (h : ySm K Q f l) : zBal P T C l := by
  obtain ⟨l0, ts, lr, h1, -, h2, rfl⟩ := h
  have hc := zBal_ch hQ ts f lr h2
  intro r vs s
  rw [List.append_assoc, hQ f l0 h1, hQ f l0 h1, zbind_as]
  congr 1
  funext v s1
  rw [hc]
theorem yleaf_le {K : Nat → Int32} {P : zP} {t : Nat} {q : zCode} (h : yleaf K P t q) : q.1 ≤ 3 := by
  rcases h with h | h | h | h <;> omega
theorem zBal_Tm {K : Nat → Int32} {P : zP} {T C : Nat → zS → zR} : ∀ (n t : Nat) (l : List zCode), yTm K P n t l → zBal P T C l
  | 0, _, _, h => h.elim
  | n + 1, t, l, h => by
    rcases h.2 with ⟨q, rfl, hq⟩ | ⟨-, f, -, hf⟩
    · exact zBal_tm (by have := yleaf_le hq; omega)
    · exact zBal_sm (fun t l => zBal_Tm n t l) hf
