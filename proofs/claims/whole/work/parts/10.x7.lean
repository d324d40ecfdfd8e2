/-! ===== x: cells that come: constructors ===== -/
def xzr {α : Type} (f : Nat → Nat → α) (n : Nat) (z : α) : Nat → Nat → α := fun b => if b = n then (fun _ => z) else f b
/-- a new cell n, all 0 and null -/
def xz (m : XM) (n : Nat) : XM := (xzr m.1 n 0, xzr m.2.1 n 0, xzr m.2.2 n none)
def xpush (G : XG) (q : Nat) (kl : Nat × Nat) : XG := (G.1, G.2.1, G.2.2.1 + 1, (fun i => if i = G.2.2.1 then q else G.2.2.2.1 i), (fun i => if i = G.2.2.1 then kl else G.2.2.2.2 i))
theorem xz_gi (m : XM) {n b : Nat} (h : b ≠ n) : gi (xz m n) b = gi m b := by
  show xzr m.1 n 0 b = m.1 b
  simp [xzr, h]
theorem xz_gl (m : XM) {n b : Nat} (h : b ≠ n) : gl (xz m n) b = gl m b := by
  show xzr m.2.1 n 0 b = m.2.1 b
  simp [xzr, h]
theorem xz_gr (m : XM) {n b : Nat} (h : b ≠ n) : gr (xz m n) b = gr m b := by
  show xzr m.2.2 n none b = m.2.2 b
  simp [xzr, h]
theorem xz_gi0 (m : XM) (n : Nat) : gi (xz m n) n = fun _ => 0 := by
  show xzr m.1 n 0 n = _
  simp [xzr]
theorem xz_gl0 (m : XM) (n : Nat) : gl (xz m n) n = fun _ => 0 := by
  show xzr m.2.1 n 0 n = _
  simp [xzr]
theorem xz_gr0 (m : XM) (n : Nat) : gr (xz m n) n = fun _ => none := by
  show xzr m.2.2 n none n = _
  simp [xzr]
theorem xpush_ad {G : XG} {q : Nat} {kl : Nat × Nat} {i : Nat} (h : i < G.2.2.1) : xad (xpush G q kl) i = xad G i := by
  show (if i = G.2.2.1 then q else G.2.2.2.1 i) = _
  rw [if_neg (by omega)]
theorem xpush_kd {G : XG} {q : Nat} {kl : Nat × Nat} {i : Nat} (h : i < G.2.2.1) : (xpush G q kl).2.2.2.2 i = G.2.2.2.2 i := by
  show (if i = G.2.2.1 then kl else G.2.2.2.2 i) = _
  rw [if_neg (by omega)]
theorem xpush_ad0 {G : XG} {q : Nat} {kl : Nat × Nat} : xad (xpush G q kl) G.2.2.1 = q := by
  show (if G.2.2.1 = G.2.2.1 then q else G.2.2.2.1 _) = _
  rw [if_pos rfl]
theorem xpush_kd0 {G : XG} {q : Nat} {kl : Nat × Nat} : (xpush G q kl).2.2.2.2 G.2.2.1 = kl := by
  show (if G.2.2.1 = G.2.2.1 then kl else G.2.2.2.2 _) = _
  rw [if_pos rfl]
theorem xfs_ad {G G' : XG} {m m' : XM} {a : Nat} : ∀ (ts : List Nat) (j : Nat), (∀ i t, ts[i]? = some t → gi m' a (j + i) = gi m a (j + i) ∧ gr m' a (j + i) = gr m a (j + i) ∧ (t ≠ 0 → ∀ b, gr m a (j + i) = some b → xad G' b = xad G b)) → xfs G' m' a j ts = xfs G m a j ts
  | [], _, _ => rfl
  | t :: ts, j, h => by
    have h0 := h 0 t rfl
    have h1 := xfs_ad ts (j + 1) (G := G) (G' := G') (m := m) (m' := m') (a := a) (fun i t' ht => by
      have := h (i + 1) t' (by simpa using ht)
      rw [show j + (i + 1) = j + 1 + i by omega] at this
      exact this)
    simp only [xfs, h1]
    congr 1
    simp only [Nat.add_zero] at h0
    by_cases ht : t = 0
    · rw [if_pos ht, if_pos ht, h0.1]
    · rw [if_neg ht, if_neg ht, h0.2.1]
      cases hr : gr m a j with
      | none => rfl
      | some b => simp only [Option.map_some, h0.2.2 ht b hr]
theorem xc_push {G : XG} {m : XM} {q : Nat} {kl : Nat × Nat} (hT : xT G m) {i : Nat} (hi : i < G.2.2.1) : xc (xpush G q kl) (xz m G.2.2.1) i = xc G m i := by
  have hne : i ≠ G.2.2.1 := by omega
  have hk : xkd (xpush G q kl) i = xkd G i := congrArg Prod.fst (xpush_kd hi)
  have hl : xln (xpush G q kl) i = xln G i := congrArg Prod.snd (xpush_kd hi)
  have had : ∀ j b, xty (xkd G i) j ≠ 0 → gr m i j = some b → xad (xpush G q kl) b = xad G b := fun j b ht hr => xpush_ad (hT i j b hi hr ht).1
  unfold xc
  rw [hk, hl, xz_gi m hne, xz_gl m hne, xz_gr m hne]
  by_cases h10 : xkd G i = 10
  · rw [if_pos h10, if_pos h10]; rfl
  rw [if_neg h10, if_neg h10]
  by_cases h11 : xkd G i = 11
  · rw [if_pos h11, if_pos h11]; rfl
  rw [if_neg h11, if_neg h11]
  by_cases h12 : xkd G i = 12
  · rw [if_pos h12, if_pos h12]; rfl
  rw [if_neg h12, if_neg h12]
  by_cases h13 : xkd G i = 13
  · rw [if_pos h13, if_pos h13]
    have : (fun j => (gr m i j).map (xad (xpush G q kl))) = fun j => (gr m i j).map (xad G) := by
      funext j
      cases hr : gr m i j with
      | none => rfl
      | some b => simp only [Option.map_some, had j b (by rw [h13]; exact fun h => by cases h) hr]
    rw [this]
    rfl
  rw [if_neg h13, if_neg h13]
  congr 2
  refine xfs_ad _ 0 (fun j t ht => ⟨by rw [xz_gi m hne], by rw [xz_gr m hne], fun h0 b hr => had (0 + j) b ?_ hr⟩)
  unfold xty
  rw [if_neg h13, Nat.zero_add, List.getD_eq_getElem?_getD, ht]
  exact h0
/-- the world with one cell more -/
theorem xw_push {G : XG} {m : XM} {q : Nat} {kl : Nat × Nat} (hT : xT G m) : xw (xpush G q kl) (xz m G.2.2.1) = xw G m ++ [(q, xc (xpush G q kl) (xz m G.2.2.1) G.2.2.1)] := by
  unfold xw
  show (List.range (G.2.2.1 + 1)).map _ = _
  rw [List.range_succ, List.map_append]
  congr 1
  · apply List.map_congr_left
    intro i hi
    have hi' := List.mem_range.mp hi
    rw [xpush_ad hi', xc_push hT hi']
  · show [(xad (xpush G q kl) G.2.2.1, _)] = _
    rw [xpush_ad0]
theorem xT_push {G : XG} {m : XM} {q : Nat} {kl : Nat × Nat} (hT : xT G m) : xT (xpush G q kl) (xz m G.2.2.1) := by
  intro a k b ha hr ht
  by_cases h : a = G.2.2.1
  · subst h
    rw [xz_gr0] at hr
    cases hr
  · have ha' : a < G.2.2.1 := by
      have : a < G.2.2.1 + 1 := ha
      omega
    rw [xz_gr m h] at hr
    have hk : xkd (xpush G q kl) a = xkd G a := congrArg Prod.fst (xpush_kd ha')
    rw [hk] at ht ⊢
    obtain ⟨h1, h2⟩ := hT a k b ha' hr ht
    exact ⟨Nat.lt_succ_of_lt h1, (congrArg Prod.fst (xpush_kd h1)).trans h2⟩
theorem isa_push {G : XG} {q : Nat} {kl : Nat × Nat} {a k : Nat} (h : isa G a k) : isa (xpush G q kl) a k := ⟨Nat.lt_succ_of_lt h.1, (congrArg Prod.fst (xpush_kd h.1)).trans h.2⟩
theorem isa_push0 {G : XG} {q : Nat} {kl : Nat × Nat} : isa (xpush G q kl) G.2.2.1 kl.1 := ⟨Nat.lt_succ_self _, congrArg Prod.fst xpush_kd0⟩
/-- G' is G with cells behind it, of these kinds, all from h0 on -/
def xgrow (G G' : XG) (h0 : Nat) (ks : List (Nat × Nat)) : Prop := G'.1 = G.1 ∧ G'.2.1 = G.2.1 ∧ G'.2.2.1 = G.2.2.1 + ks.length ∧ (∀ i, i < G.2.2.1 → xad G' i = xad G i ∧ G'.2.2.2.2 i = G.2.2.2.2 i) ∧ ∀ i, i < ks.length → h0 ≤ xad G' (G.2.2.1 + i) ∧ some (G'.2.2.2.2 (G.2.2.1 + i)) = ks[i]?
theorem xgrow_rf {G : XG} {h0 : Nat} : xgrow G G h0 [] := ⟨rfl, rfl, rfl, fun _ _ => ⟨rfl, rfl⟩, fun i h => by cases h⟩
theorem xgrow_tr {G G1 G2 : XG} {h0 h1 : Nat} {k1 k2 : List (Nat × Nat)} (hh : h0 ≤ h1) (a : xgrow G G1 h0 k1) (b : xgrow G1 G2 h1 k2) : xgrow G G2 h0 (k1 ++ k2) := by
  obtain ⟨a1, a2, a3, a4, a5⟩ := a
  obtain ⟨b1, b2, b3, b4, b5⟩ := b
  refine ⟨b1.trans a1, b2.trans a2, by rw [b3, a3, List.length_append]; omega, fun i hi => ?_, fun i hi => ?_⟩
  · have h1 := b4 i (by omega)
    have h2 := a4 i hi
    exact ⟨h1.1.trans h2.1, h1.2.trans h2.2⟩
  · by_cases h : i < k1.length
    · have h1 := b4 (G.2.2.1 + i) (by omega)
      have h2 := a5 i h
      rw [h1.1, h1.2, List.getElem?_append_left h]
      exact h2
    · rw [List.length_append] at hi
      have h1 := b5 (i - k1.length) (by omega)
      rw [a3, show G.2.2.1 + k1.length + (i - k1.length) = G.2.2.1 + i by omega] at h1
      rw [List.getElem?_append_right (by omega)]
      exact ⟨Nat.le_trans hh h1.1, h1.2⟩
theorem xgrow_push {G : XG} {q h0 : Nat} {kl : Nat × Nat} (h : h0 ≤ q) : xgrow G (xpush G q kl) h0 [kl] := by
  refine ⟨rfl, rfl, rfl, fun i hi => ⟨xpush_ad hi, xpush_kd hi⟩, fun i hi => ?_⟩
  have : i = 0 := by simpa using hi
  subst this
  rw [Nat.add_zero, xpush_ad0, xpush_kd0]
  exact ⟨h, rfl⟩
theorem isa_grow {G G' : XG} {h0 : Nat} {ks : List (Nat × Nat)} (h : xgrow G G' h0 ks) {a k : Nat} (ha : isa G a k) : isa G' a k := ⟨by rw [h.2.2.1]; exact Nat.lt_of_lt_of_le ha.1 (Nat.le_add_right _ _), (congrArg Prod.fst (h.2.2.2.1 a ha.1).2).trans ha.2⟩
theorem isa_new {G G' : XG} {h0 : Nat} {ks : List (Nat × Nat)} (h : xgrow G G' h0 ks) (i : Nat) {kl : Nat × Nat} (hi : ks[i]? = some kl) : isa G' (G.2.2.1 + i) kl.1 := by
  have h1 := (List.getElem?_eq_some_iff.mp hi).1
  have h2 := (h.2.2.2.2 i h1).2
  rw [hi] at h2
  exact ⟨by rw [h.2.2.1]; omega, congrArg Prod.fst (Option.some.inj h2)⟩
/-- E with cells and slots more -/
abbrev xEa (E : XE) (k n : Nat) : XE := (E.1, E.2.1, E.2.2.1 + k, E.2.2.2 + n)
theorem xF_push {E : XE} {G : XG} {X : XX} {M : XD} (F : xF E G X M) {q k n : Nat} {kl : Nat × Nat} (hq : ∀ i, i < G.2.2.1 → xad G i ≠ q) (hA : E.2.1 q) (hr : E.2.2.1 + k ≤ E.1.cells ∧ E.2.2.2 + n ≤ E.1.slots) : xF (xEa E k n) (xpush G q kl) X M := by
  obtain ⟨h1, h2, h3, h4, h5, h6, h7, h8, h9, h10, h11, -⟩ := F
  refine ⟨h1, h2, h3, h4, h5, h6, h7, h8, ?_, h10, ?_, hr⟩
  · intro i j hi hj he
    have hi' : i < G.2.2.1 + 1 := hi
    have hj' : j < G.2.2.1 + 1 := hj
    by_cases ei : i = G.2.2.1
    · by_cases ej : j = G.2.2.1
      · rw [ei, ej]
      · rw [ei, xpush_ad0, xpush_ad (by omega)] at he
        exact absurd he.symm (hq j (by omega))
    · by_cases ej : j = G.2.2.1
      · rw [ej, xpush_ad0, xpush_ad (by omega)] at he
        exact absurd he (hq i (by omega))
      · rw [xpush_ad (by omega), xpush_ad (by omega)] at he
        exact h9 i j (by omega) (by omega) he
  · intro i hi
    have hi' : i < G.2.2.1 + 1 := hi
    by_cases ei : i = G.2.2.1
    · rw [ei, xpush_ad0]; exact hA
    · rw [xpush_ad (by omega)]; exact h11 i (by omega)
theorem xnew_core {E : XE} {G : XG} {X : XX} {m : XM} {H H1 : Heap} {locs : List Loc} {kl : Nat × Nat} (hP : va_P G.1.1 vwCl (xw G m) H) (hS : va_S E.2.1 X.2.2.1.heap H locs) (hT : xT G m) (z1 : H1.size = H.size + 1) (o1 : ∀ q, q < H.size → H1[q]? = H[q]?) (he : va_at G.1.1 vwCl (H.size, xc (xpush G H.size kl) (xz m G.2.2.1) G.2.2.1) H1) :
    va_P (xpush G H.size kl).1.1 vwCl (xw (xpush G H.size kl) (xz m G.2.2.1)) H1 ∧ va_S E.2.1 X.2.2.1.heap H1 locs ∧ ∀ i, i < G.2.2.1 → xad G i ≠ H.size := by
  refine ⟨?_, ⟨Nat.le_trans hS.1 (by omega), fun q h1 h2 => (o1 q (Nat.lt_of_lt_of_le h1 hS.1)).trans (hS.2.1 q h1 h2), hS.2.2⟩, fun i hi e => ?_⟩
  · rw [xw_push hT]
    refine va_P.app (hP.kept (fun k q hk => o1 q.1 ((hP k q hk).lt))) (fun k x hx => ?_)
    have hz : k < 1 := (List.getElem?_eq_some_iff.mp hx).1
    rw [show k = 0 by omega] at hx
    cases hx
    exact he
  · have := (hP i _ (xget m hi)).lt
    have e2 : (xad G i, xc G m i).1 = H.size := e
    omega
section XN
variable {α : Type} {E : XE} {Q : α → State → Prop} {G : XG} {l : Launch} {X : XX} {M M' : XD} {pc : Nat} {lv : List (Nat × Value)} {st : List Value} {m : XM} {t : Option α} {lvf : XG → List (Nat × Value)} {stf : XG → List Value}
/-- a new row of numbers: its kind, its class among the array classes -/
theorem xj_newA (F : xF E G X M) {atype : ArrayType} {ty : FieldType} {kd len ti : Nat} {cy : ClassId} {nn : Int32} (hA : ∀ q, X.2.2.1.heap.size ≤ q → E.2.1 q) (hty : newarray.typeOf atype = ty) (hti : (xtys G)[ti]? = some (cy, ty)) (hRA : va_RA X.2.2.1 cy ty → X.2.2.1.vm.findClass ("[" ++ ty.toString) = some cy)
    (hxc : ∀ q, ∃ a, xc (xpush G q (kd, len)) (xz m G.2.2.1) G.2.2.1 = .inl (cy, len, a) ∧ vp_cell cy (len, a) = arrV cy len (fun _ => defaultValue ty))
    (harr : Cond.arrayClass ty ∈ xB) (hn : ¬ nn < 0) (hN : nn.toNatClampNeg = len) (hb : len * componentBytes ty ≤ 536870912) (hc : E.2.2.1 + 1 ≤ E.1.cells) (hs : E.2.2.2 + len ≤ E.1.slots) (hd : decode M.2.1 pc = .ok (.newarray atype, 2)) {n : Nat} (hgn : G.2.2.1 = n) (hlv : ∀ G' : XG, (∀ i, i < G.2.2.1 → xad G' i = xad G i) → lvf G' = lvf G ∧ stf G' = stf G)
    (c : ∀ G' : XG, xgrow G G' X.2.2.1.heap.size [(kd, len)] → G'.2.2.1 = n + 1 → isa G' n kd → xF (xEa E 1 len) G' X M → xJ (xEa E 1 len) Q G' l X M (pc + 2) (lvf G') (.ref (xad G' n) :: stf G') (xz m n) t) : xJ E Q G l X M pc (lvf G) (.int nn :: stf G) m t := by
  intro z hz H locs ls hP hS hT hl
  subst hty
  refine va_newaK F.1 F.2.1 (F.2.2.2.2.2.1 _ harr) rfl hd rfl hn hN hb hc hs rfl (fun H1 cA e1 z1 o1 hAr hNm => ?_)
  have hcy : cA = cy := by
    have h2 := hRA ((F.2.2.2.2.2.2.2.1).2 ti _ hti).2
    exact Option.some.inj (hNm.symm.trans h2)
  subst hcy
  obtain ⟨a, ha, hcell⟩ := hxc H.size
  obtain ⟨g1, g2, g3⟩ := xnew_core (E := E) (X := X) (kl := (kd, len)) hP hS hT z1 o1 (by
    rw [ha]
    show H1[H.size]? = some (vp_cell cA (len, a))
    rw [e1]
    exact congrArg some hcell.symm)
  have F1 := xF_push F (kl := (kd, len)) g3 (hA _ hS.1) (k := 1) (n := len) ⟨hc, hs⟩
  have hl2 := hlv (xpush G H.size (kd, len)) (fun i hi => xpush_ad hi)
  have k := c (xpush G H.size (kd, len)) (xgrow_push hS.1) (by rw [← hgn]; rfl) (by rw [← hgn]; exact isa_push0) F1 z hz H1 locs ls (by rw [← hgn]; exact g1) g2 (by rw [← hgn]; exact xT_push hT) (by rw [hl2.1]; exact hl)
  rw [← hgn, xpush_ad0, hl2.2] at k
  exact k
/-- a new object -/
theorem xj_newC (F : xF E G X M) {ci idx : Nat} {C : String} {T : u_T} {N : Nat} {ty : Nat → FieldType} (hA : ∀ q, X.2.2.1.heap.size ≤ q → E.2.1 q) (hci : ci < 10) (hcl : vwCl[ci]? = some (C, T, N)) (hin : ∀ w ∈ u_ws C T N, w ∈ xB) (hty : ∀ k, k < N → parseFieldDescriptor (T k).2.2.1 = some (ty k)) (hdef : ∀ j, j < N → ∃ t, (xtab.getD ci [])[j]? = some t ∧ defaultValue (ty j) = if t = 0 then .int 0 else .null) (hlk : Cond.classLink M.1.cls idx C ∈ xB) (hinst : Cond.instantiable C N ∈ xB) (hini : Cond.initialized C ∈ xB)
    (hc : E.2.2.1 + 1 ≤ E.1.cells) (hs : E.2.2.2 + N ≤ E.1.slots) (hd : decode M.2.1 pc = .ok (.new idx, 3)) {n : Nat} (hgn : G.2.2.1 = n) (hlv : ∀ G' : XG, (∀ i, i < G.2.2.1 → xad G' i = xad G i) → lvf G' = lvf G ∧ stf G' = stf G)
    (c : ∀ G' : XG, xgrow G G' X.2.2.1.heap.size [(ci, 0)] → G'.2.2.1 = n + 1 → isa G' n ci → xF (xEa E 1 N) G' X M → xJ (xEa E 1 N) Q G' l X M (pc + 3) (lvf G') (.ref (xad G' n) :: stf G') (xz m n) t) : xJ E Q G l X M pc (lvf G) (stf G) m t := by
  intro z hz H locs ls hP hS hT hl
  have hKn := (F.2.2.2.2.2.2.2.1).1 ci _ hcl
  refine W.newcK F.1 F.2.1 F.2.2.2.2.1 (F.2.2.2.2.2.1 _ hlk) (F.2.2.2.2.2.1 _ hinst) (F.2.2.2.2.2.1 _ hini) rfl hd hc hs hKn.2.1 rfl (fun H1 kC hkC e1 z1 o1 => ?_)
  have hkd : xkd (xpush G H.size (ci, 0)) G.2.2.1 = ci := congrArg Prod.fst xpush_kd0
  obtain ⟨g1, g2, g3⟩ := xnew_core (E := E) (X := X) (kl := (ci, 0)) hP hS hT z1 o1 (by
    rw [xc_obj hkd hci]
    refine ⟨_, hcl, (u_born ty F.2.2.2.2.2.1 hin hKn hkC e1 hty).to (fun j hj => ?_)⟩
    obtain ⟨t, ht, hdv⟩ := hdef j hj
    rw [hdv]
    have h1 := xfs_get (xpush G H.size (ci, 0)) (xz m G.2.2.1) G.2.2.1 _ 0 j t ht
    rw [xz_gi0, xz_gr0] at h1
    show _ = List.getD _ j Value.null
    rw [List.getD_eq_getElem?_getD, h1]
    rfl)
  have F1 := xF_push F (kl := (ci, 0)) g3 (hA _ hS.1) (k := 1) (n := N) ⟨hc, hs⟩
  have hl2 := hlv (xpush G H.size (ci, 0)) (fun i hi => xpush_ad hi)
  have k := c (xpush G H.size (ci, 0)) (xgrow_push hS.1) (by rw [← hgn]; rfl) (by rw [← hgn]; exact isa_push0) F1 z hz H1 locs ls (by rw [← hgn]; exact g1) g2 (by rw [← hgn]; exact xT_push hT) (by rw [hl2.1]; exact hl)
  rw [← hgn, xpush_ad0, hl2.2] at k
  exact k
theorem xj_objInit (F : xF E G X M) {idx : Nat} {a : Nat} (h1 : Cond.methodLink M.1.cls idx objectInit ∈ xB) (h2 : Cond.instanceMethod objectInit ∈ xB) (h3 : Cond.code objectInit ⟨#[0xb1]⟩ 1 none ∈ xB) (hd : decode M.2.1 pc = .ok (.invokespecial idx, 3)) (hf : 1 ≤ E.1.frames ∧ (st.map fun v => v.category).sum + 12 ≤ E.1.locals) (k : xJ E Q G l X M (pc + 3) lv st m t) : xJ E Q G l X M pc lv (.ref a :: st) m t := by
  intro z hz H locs ls hP hS hT hl
  exact W.objInit F.1 F.2.1 F.2.2.2.2.1 (F.2.2.2.2.2.1 _ h1) (F.2.2.2.2.2.1 _ h2) (F.2.2.2.2.2.1 _ h3) rfl (by rw [F.2.2.2.1]; exact hl.1) rfl hd hf.1 (by have := hf.2; show 2 * 0 + _ + 12 ≤ _; omega) (k z hz H locs ls hP hS hT hl)
/-- a final field, in its constructor -/
theorem xj_putF (F : xF E G X M) {a idx ci k u v : Nat} {ty : FieldType} {ty0 : Nat → FieldType} {C : String} {T : u_T} {N : Nat} {κ : XM → Option α} (hm : X.2.2.2.2.2.2.1.name = "<init>") (ha : isa G a ci) (hci : ci < 10) (hcl : vwCl[ci]? = some (C, T, N)) (hkN : k < N) (hin : ∀ w ∈ u_ws C T N, w ∈ xB) (hlk : Cond.fieldLink M.1.cls idx (T k).1 (T k).2.1 (T k).2.2.1 ∈ xB) (hty : ∀ k, k < N → parseFieldDescriptor (T k).2.2.1 = some (ty0 k)) (hnm : ∀ a, a < N → ∀ b, b < N → a ≠ b → (T a).2.1 ≠ (T b).2.1) (hfin : (T k).2.2.2 = true) (hde : (T k).1 = M.1.cls) (hpd : parseFieldDescriptor (T k).2.2.1 = some ty) (hn : ∀ v : Nat, narrow ty (.ref v) = .ref v) (hfit : ∀ v : Nat, fits ty (.ref v) = true) (hk : (xtab.getD ci [])[k]? = some (u + 1)) (hv : isa G v u) (hd : decode M.2.1 pc = .ok (.putfield idx, 3)) (c : ∀ m', xJ E Q G l X M (pc + 3) lv st m' (κ m')) : xJ E Q G l X M pc lv (.ref (xad G v) :: .ref (xad G a) :: st) m (xv (sr m a k (some v)) κ) := by
  intro z hz H locs ls hP hS hT hl
  have ety : xty (xkd G a) k = u + 1 := by
    rw [ha.2, xty, if_neg (by omega), List.getD_eq_getElem?_getD, hk]
    rfl
  have hq := xget m ha.1
  rw [xc_obj ha.2 hci] at hq
  refine va_putF F.1 F.2.1 F.2.2.2.2.2.1 hin ty0 hty hnm F.2.2.2.2.1 F.2.2.2.2.2.2.2.1 hP (xD (xnd F) (xFA F) m) hS a hq hcl k hkN (F.2.2.2.2.2.1 _ hlk) (fun _ h9 => h9) hfin hm hde hpd (hn _) (hfit _) ?_ hd (fun H1 locs1 hP1 _ hS1 => ?_)
  · rw [xfs_len]
    exact (List.getElem?_eq_some_iff.mp hk).1
  · rw [xset (m' := sr m a k (some v)) ha.1 (by rw [xc_obj ha.2 hci, xfs_set G m (sr m a k (some v)) a (.ref (xad G v)) _ 0 k (u + 1) hk (by rw [if_neg (Nat.succ_ne_zero u), Nat.zero_add]; exact congrArg (fun o => va_rf (Option.map (xad G) o)) (xup_same _ _ _ _)) (fun i hi => ⟨rfl, by show xup _ _ _ _ _ _ = _; rw [xup_row]; rw [Nat.zero_add] at hi; simp [hi, gr]⟩)]) (xsr_other m a k (some v))] at hP1
    exact c _ z hz H1 locs1 ls hP1 hS1 (xT_sr hT (by rw [ety]; exact hv)) hl
/-- the three kinds of rows -/
theorem xnewI {G : XG} {m : XM} {len : Nat} : ∀ q, ∃ a, xc (xpush G q (10, len)) (xz m G.2.2.1) G.2.2.1 = .inl (G.2.1.1, len, a) ∧ vp_cell G.2.1.1 (len, a) = arrV G.2.1.1 len (fun _ => defaultValue .int) := fun q => by
  refine ⟨.inl (gi (xz m G.2.2.1) G.2.2.1), ?_, ?_⟩
  · rw [xc_I (congrArg Prod.fst xpush_kd0)]
    show Sum.inl (G.2.1.1, ((xpush G q (10, len)).2.2.2.2 G.2.2.1).2, _) = _
    rw [xpush_kd0]
  · rw [vp_cell_i, xz_gi0]; rfl
theorem xnewZ {G : XG} {m : XM} {len : Nat} : ∀ q, ∃ a, xc (xpush G q (12, len)) (xz m G.2.2.1) G.2.2.1 = .inl (G.2.1.2.2.1, len, a) ∧ vp_cell G.2.1.2.2.1 (len, a) = arrV G.2.1.2.2.1 len (fun _ => defaultValue .boolean) := fun q => by
  refine ⟨.inl (gi (xz m G.2.2.1) G.2.2.1), ?_, ?_⟩
  · rw [xc_Z (congrArg Prod.fst xpush_kd0)]
    show Sum.inl (G.2.1.2.2.1, ((xpush G q (12, len)).2.2.2.2 G.2.2.1).2, _) = _
    rw [xpush_kd0]
  · rw [vp_cell_i, xz_gi0]; rfl
theorem xnewJ {G : XG} {m : XM} {len : Nat} : ∀ q, ∃ a, xc (xpush G q (11, len)) (xz m G.2.2.1) G.2.2.1 = .inl (G.2.1.2.1, len, a) ∧ vp_cell G.2.1.2.1 (len, a) = arrV G.2.1.2.1 len (fun _ => defaultValue .long) := fun q => by
  refine ⟨.inr (.inl (gl (xz m G.2.2.1) G.2.2.1)), ?_, ?_⟩
  · rw [xc_J (congrArg Prod.fst xpush_kd0)]
    show Sum.inl (G.2.1.2.1, ((xpush G q (11, len)).2.2.2.2 G.2.2.1).2, _) = _
    rw [xpush_kd0]
  · rw [vp_cell_l, xz_gl0]; rfl
/-! the contract of a constructor: the cells ks come, memory m' is behind it -/
def xroomN (d mc ms : Nat) : Room := { frames := d, cells := mc, slots := ms, locals := 48 * d }
def xAn (G : XG) (sz : Nat) : Nat → Prop := fun q => xA G q ∨ sz ≤ q
def xPn (G : XG) (av : List Value) (m : XM) (sz : Nat) : Array Value → State → Prop := fun v U => v = av.toArray ∧ U.heap.size = sz ∧ va_P G.1.1 vwCl (xw G m) U.heap ∧ xK G U ∧ xSt (xAn G sz) G U
def xQn (G : XG) (ks : List (Nat × Nat)) (m' : XM) (sz : Nat) : Array Value → State → Outcome → State → Prop := fun _ st o t => o = .returned none ∧ ∃ G' : XG, xgrow G G' sz ks ∧ xN G' ∧ xT G' m' ∧ va_P G'.1.1 vwCl (xw G' m') t.heap ∧ va_F (xAn G sz) st t
def xCMet (G : XG) (l : Launch) (M : XD) (d mc ms : Nat) (av : List Value) (m : XM) (ks : List (Nat × Nat)) (m' : XM) : Prop := ∀ sz, Met l M.1 (xws M) (xroomN d mc ms) (xPn G av m sz) (xQn G ks m' sz) mc ms (xAn G sz)
abbrev xEn (G : XG) (d mc ms sz : Nat) : XE := (xroomN d mc ms, xAn G sz, 0, 0)
abbrev xQN (G : XG) (ks : List (Nat × Nat)) (X : XX) (mc ms sz : Nat) : XM → State → Prop := fun m' => MQ X.2.2.2.2.2.1 (xQn G ks m' sz) X.2.2.2.2.1 X.2.2.1 mc ms (xAn G sz)
theorem xCMet_of {G : XG} {l : Launch} {M : XD} {d mc ms : Nat} {av : List Value} {m : XM} {ks : List (Nat × Nat)} {t : Option XM} (hy : plainFor M.1 = true) (hn : xN G) (hT : xT G m) (hav : (lg_sl av).length ≤ M.2.2.1) (hin : M.1.name = "<init>")
    (h : ∀ (X : XX) (sz : Nat), X.2.2.1.heap.size = sz → X.2.2.2.2.2.2.1.name = "<init>" → xF (xEn G d mc ms sz) G X M → xJ (xEn G d mc ms sz) (xQN G ks X mc ms sz) G l X M 0 (lv_args 0 av) [] m t) : ∀ z, t = some z → xCMet G l M d mc ms av m ks z := by
  intro z hz sz
  refine xofW hy ?_
  intro p e s mid args below meth c s₁ B hml hv
  obtain ⟨rfl, hsz, hP, hK, hSt⟩ := hv
  have hl := lv_entry av (n := M.2.2.1) hav
  rw [lg_entry_eq]
  exact h (p, e, s, mid, av.toArray, below, meth, c) sz hsz ((name_of_methodNamed B.named B.method).1.trans hin) ⟨B.exec, B.bytes, B.returns, hml, findClass_of_methodNamed B.named, fun w hw => atoms_spec (ws := xws M) B.pre w (List.mem_cons_of_mem _ hw), B.notSynchronized, hK, hn, hSt, fun i hi => Or.inl ⟨i, hi, rfl⟩, Nat.zero_le _, Nat.zero_le _⟩ z hz s.heap [] _ hP va_S.rf hT hl
theorem xj_retC {G0 : XG} {ks : List (Nat × Nat)} {sz : Nat} {R : Room} {mc ms : Nat} (F : xF (R, xAn G0 sz, mc, ms) G X M) (hg : xgrow G0 G sz ks) (hr : M.2.2.2.1 = none) (hd : decode M.2.1 pc = .ok (.return_, 1)) : xJ (R, xAn G0 sz, mc, ms) (xQN G0 ks X mc ms sz) G l X M pc lv [] m (some m) := by
  intro z hz H locs ls hP hS hT hl
  cases hz
  exact W.vret F.1 F.2.1 (F.2.2.1.trans hr) (fun t ht hW => ⟨rfl, G, hg, xnd F, hT, by rw [ht]; exact hP, hS.F ht⟩) hS.2.2 hd F.2.2.2.2.2.2.1
/-- a constructor is called -/
theorem xj_callN (F : xF E G X M) {b idx n0 d' mc ms : Nat} {As : List Value} {ks : List (Nat × Nat)} {o : Option XM} {κ : XM → Option α} {stk : List Value} (hA : ∀ q, X.2.2.1.heap.size ≤ q → E.2.1 q) (hl : xml M.1.cls idx M' n0) (hi : Cond.instanceMethod M'.1 ∈ xB) (hin : M'.1.name = "<init>") (hret : M'.2.2.2.1 = none) (hn0 : As.length = n0) (hs : stk = As.reverse ++ .ref (xad G b) :: stf G) (hW : ((stf G).map fun v => v.category).sum ≤ 8) (hd' : xfits E d') (hrm : E.2.2.1 + mc ≤ E.1.cells ∧ E.2.2.2 + ms ≤ E.1.slots) (hd : decode M.2.1 pc = .ok (.invokespecial idx, 3)) (hM : xT G m → ∀ z, o = some z → xCMet G l M' d' mc ms (.ref (xad G b) :: As) m ks z) {n : Nat} (hgn : G.2.2.1 = n) (hlv : ∀ G' : XG, (∀ i, i < G.2.2.1 → xad G' i = xad G i) → lvf G' = lvf G ∧ stf G' = stf G)
    (c : ∀ (G' : XG) (m' : XM), xgrow G G' X.2.2.1.heap.size ks → G'.2.2.1 = n + ks.length → xF (xEa E mc ms) G' X M → xJ (xEa E mc ms) Q G' l X M (pc + 3) (lvf G') (stf G') m' (κ m')) : xJ E Q G l X M pc (lvf G) stk m (xcv o κ) := by
  intro z hz H locs ls hP hS hT hl0
  cases ho : o with
  | none => rw [ho] at hz; cases hz
  | some m1 =>
    rw [ho] at hz
    have hK := F.2.2.2.2.2.2.2.1
    obtain ⟨q1, q2, q3, q4, q5⟩ := hl
    have hMet := hM hT m1 ho H.size
    have cb : CallB E.1 X.2.2.1 X.2.2.2.2.1 M.1.cls idx M'.1 M'.2.1 M'.2.2.1 none (xws M') (xroomN d' mc ms) mc ms n0 := by
      refine callB_of (ws' := xB) n0 F.2.2.2.2.2.1 (xgood q2) (by rw [xws, xcd, hret]) rfl rfl (F.2.2.2.2.2.1 _ q3) (F.2.2.2.2.2.1 _ q1) q4 ⟨hd'.1, ?_⟩
      have := hd'.2
      show 8 + (M'.2.2.1 + 11) + 48 * d' ≤ E.1.locals
      omega
    have hrun := va_runI (g := F0 X.2.2.2.1 pc ls stk) (b := xad G b) (As := As) (rest := stf G) (l := l) (below := X.2.2.2.2.2.1) (meth := X.2.2.2.2.2.2.1) (e := X.2.1) (locs := locs) (cells := E.2.2.1) (slots := E.2.2.2) ⟨F.1, F.2.1, F.2.2.2.1, F.2.2.2.2.1, F.2.2.2.2.2.1⟩ hMet ⟨cb, hin, F.2.2.2.2.2.1 _ hi⟩ (H := H) ⟨fun a U g mk q => ⟨q.1, q.2.1, q.2.2.1, va_K.moved (u := U) (U := U.calling g mk a) (Vm.Alike.refl U.vm) q.2.2.2.1, xSt_same (u := U) (U := U.calling g mk a) rfl rfl q.2.2.2.2⟩, fun U hU hWU => ⟨rfl, by rw [hU], by rw [hU]; exact hP, va_K.moved hWU.alike hK, xSt_in (fun q hq => by
        rcases hq with ⟨i, hi, he⟩ | hq
        · rw [he]; exact xFA F i hi
        · exact hA q (Nat.le_trans hS.1 hq)) (xSt_go hWU (fun a h1 h2 => by rw [hU]; exact hS.2.1 a h1 h2) (xFs F))⟩⟩ rfl hn0 hl0.1 hs (by exact Nat.le_trans (Nat.le_of_eq (Nat.zero_add _)) hW) hd hrm
    intro T hTh Xs
    obtain ⟨v, st₀, t, T', L, h0, X', hL, e1, e2, ⟨hv, G', hg, hN', hT', hP', hz1, hkk⟩, stp⟩ := hrun T hTh Xs
    cases hv
    rw [h0] at hz1 hkk
    have hAn : ∀ q, xAn G H.size q → E.2.1 q := fun q hq => by
      rcases hq with ⟨i, hi, he⟩ | hq
      · rw [he]; exact xFA F i hi
      · exact hA q (Nat.le_trans hS.1 hq)
    have hS1 : va_S E.2.1 X.2.2.1.heap T'.heap (locs ++ L) := ⟨Nat.le_trans hS.1 (by rw [e1]; exact hz1), fun q h1 h2 => by rw [e1, hkk q (Nat.lt_of_lt_of_le h1 hS.1) (fun h => h2 (hAn q h))]; exact hS.2.1 q h1 h2, fun q hq => by
      rcases List.mem_append.mp hq with h | h
      · exact hS.2.2 q h
      · exact hAn _ (hL q h)⟩
    have hg2 : xgrow G G' X.2.2.1.heap.size ks := ⟨hg.1, hg.2.1, hg.2.2.1, hg.2.2.2.1, fun i hi => ⟨Nat.le_trans hS.1 (hg.2.2.2.2 i hi).1, (hg.2.2.2.2 i hi).2⟩⟩
    have F1 : xF (xEa E mc ms) G' X M := by
      obtain ⟨f1, f2, f3, f4, f5, f6, f7, f8, f9, f10, f11, f12⟩ := F
      refine ⟨f1, f2, f3, f4, f5, f6, f7, ?_, hN', ?_, ?_, hrm⟩
      · unfold xK xtys
        rw [hg.1, hg.2.1]
        exact f8
      · unfold xSt
        rw [hg.1]
        exact f10
      · intro i hi
        rw [hg.2.2.1] at hi
        by_cases h : i < G.2.2.1
        · rw [(hg.2.2.2.1 i h).1]; exact f11 i h
        · have h1 := (hg2.2.2.2.2 (i - G.2.2.1) (by omega)).1
          rw [show G.2.2.1 + (i - G.2.2.1) = i by omega] at h1
          exact hA _ h1
    have hl2 := hlv G' (fun i hi => (hg.2.2.2.1 i hi).1)
    have k := c G' m1 hg2 (by rw [hg.2.2.1, hgn]) F1 z hz T'.heap (locs ++ L) ls (by rw [e1]; exact hP') hS1 hT' (by rw [hl2.1]; exact hl0)
    rw [hl2.2] at k
    obtain ⟨t2, a1, b1⟩ := k T' rfl X'
    exact ⟨t2, stp t2 a1, b1⟩
end XN
/-! ===== new int[3][7] ===== -/
def xmna (m : XM) (n : Nat) : XM := sr (sr (sr (xz (xz (xz (xz m n) (n + 1)) (n + 2)) (n + 3)) n 0 (some (n + 1))) n 1 (some (n + 2))) n 2 (some (n + 3))
def xG4 (G : XG) (h : Nat) : XG := xpush (xpush (xpush (xpush G h (13, 3)) (h + 1) (10, 7)) (h + 2) (10, 7)) (h + 3) (10, 7)
theorem xG4_n (G : XG) (h : Nat) : (xG4 G h).2.2.1 = G.2.2.1 + 4 := rfl
theorem xG4_ad {G : XG} {h i : Nat} (hi : i < G.2.2.1) : xad (xG4 G h) i = xad G i := by
  unfold xG4
  rw [xpush_ad (show i < G.2.2.1 + 1 + 1 + 1 by omega), xpush_ad (show i < G.2.2.1 + 1 + 1 by omega), xpush_ad (show i < G.2.2.1 + 1 by omega), xpush_ad hi]
theorem xG4_kd {G : XG} {h i : Nat} (hi : i < G.2.2.1) : (xG4 G h).2.2.2.2 i = G.2.2.2.2 i := by
  unfold xG4
  rw [xpush_kd (show i < G.2.2.1 + 1 + 1 + 1 by omega), xpush_kd (show i < G.2.2.1 + 1 + 1 by omega), xpush_kd (show i < G.2.2.1 + 1 by omega), xpush_kd hi]
theorem xG4_new {G : XG} {h : Nat} : ∀ j, j < 4 → xad (xG4 G h) (G.2.2.1 + j) = h + j ∧ (xG4 G h).2.2.2.2 (G.2.2.1 + j) = if j = 0 then (13, 3) else (10, 7) := by
  intro j hj
  show (if G.2.2.1 + j = G.2.2.1 + 1 + 1 + 1 then h + 3 else if G.2.2.1 + j = G.2.2.1 + 1 + 1 then h + 2 else if G.2.2.1 + j = G.2.2.1 + 1 then h + 1 else if G.2.2.1 + j = G.2.2.1 then h else _) = _ ∧ (if G.2.2.1 + j = G.2.2.1 + 1 + 1 + 1 then (10, 7) else if G.2.2.1 + j = G.2.2.1 + 1 + 1 then (10, 7) else if G.2.2.1 + j = G.2.2.1 + 1 then (10, 7) else if G.2.2.1 + j = G.2.2.1 then (13, 3) else _) = _
  rcases (show j = 0 ∨ j = 1 ∨ j = 2 ∨ j = 3 by omega) with rfl | rfl | rfl | rfl
  · rw [if_neg (by omega), if_neg (by omega), if_neg (by omega), if_pos (by omega), if_neg (by omega), if_neg (by omega), if_neg (by omega), if_pos (by omega)]
    exact ⟨rfl, rfl⟩
  · rw [if_neg (by omega), if_neg (by omega), if_pos (by omega), if_neg (by omega), if_neg (by omega), if_pos (by omega)]
    exact ⟨rfl, rfl⟩
  · rw [if_neg (by omega), if_pos (by omega), if_neg (by omega), if_pos (by omega)]
    exact ⟨rfl, rfl⟩
  · rw [if_pos (by omega), if_pos (by omega)]
    exact ⟨rfl, rfl⟩
theorem xmna_other {m : XM} {n b : Nat} (h : b < n) : gi (xmna m n) b = gi m b ∧ gl (xmna m n) b = gl m b ∧ gr (xmna m n) b = gr m b := by
  have e1 : gi (xmna m n) b = gi (xz (xz (xz (xz m n) (n + 1)) (n + 2)) (n + 3)) b := rfl
  have e2 : gl (xmna m n) b = gl (xz (xz (xz (xz m n) (n + 1)) (n + 2)) (n + 3)) b := rfl
  refine ⟨?_, ?_, ?_⟩
  · rw [e1, xz_gi _ (by omega), xz_gi _ (by omega), xz_gi _ (by omega), xz_gi _ (by omega)]
  · rw [e2, xz_gl _ (by omega), xz_gl _ (by omega), xz_gl _ (by omega), xz_gl _ (by omega)]
  · show xup (xup (xup _ n 0 _) n 1 _) n 2 _ b = _
    rw [xup_ne _ _ _ (show b ≠ n by omega), xup_ne _ _ _ (show b ≠ n by omega), xup_ne _ _ _ (show b ≠ n by omega)]
    exact (xz_gr _ (by omega)).trans ((xz_gr _ (by omega)).trans ((xz_gr _ (by omega)).trans (xz_gr _ (by omega))))
theorem xmna_in {m : XM} {n j : Nat} (hj : j < 3) : gi (xmna m n) (n + 1 + j) = (fun _ => 0) ∧ gr (xmna m n) (n + 1 + j) = fun _ => none := by
  have e1 : gi (xmna m n) (n + 1 + j) = gi (xz (xz (xz (xz m n) (n + 1)) (n + 2)) (n + 3)) (n + 1 + j) := rfl
  have e3 : gr (xmna m n) (n + 1 + j) = gr (xz (xz (xz (xz m n) (n + 1)) (n + 2)) (n + 3)) (n + 1 + j) := by
    show xup (xup (xup _ n 0 _) n 1 _) n 2 _ (n + 1 + j) = _
    rw [xup_ne _ _ _ (by omega), xup_ne _ _ _ (by omega), xup_ne _ _ _ (by omega)]
    rfl
  rw [e1, e3]
  rcases (show j = 0 ∨ j = 1 ∨ j = 2 by omega) with rfl | rfl | rfl
  · rw [xz_gi _ (by omega), xz_gi _ (by omega), xz_gr _ (by omega), xz_gr _ (by omega)]
    exact ⟨xz_gi0 _ _, xz_gr0 _ _⟩
  · rw [xz_gi _ (by omega), xz_gr _ (by omega)]
    exact ⟨xz_gi0 _ _, xz_gr0 _ _⟩
  · exact ⟨xz_gi0 _ _, xz_gr0 _ _⟩
theorem xmna_out {m : XM} {n : Nat} : gr (xmna m n) n = fun j => if j < 3 then some (n + 1 + j) else none := by
  funext j
  show xup (xup (xup _ n 0 _) n 1 _) n 2 _ n j = _
  rw [xup_row]
  by_cases h2 : j = 2
  · subst h2; simp
  · rw [xup_row]
    by_cases h1 : j = 1
    · subst h1; simp
    · rw [xup_row]
      by_cases h0 : j = 0
      · subst h0; simp
      · simp only [if_neg h2, if_neg h1, if_neg h0]
        rw [if_neg (show ¬ j < 3 by omega)]
        show gr (xz (xz (xz (xz m n) (n + 1)) (n + 2)) (n + 3)) n j = none
        rw [xz_gr _ (by omega), xz_gr _ (by omega), xz_gr _ (by omega), xz_gr0]
theorem xmna_T {G : XG} {m : XM} {h : Nat} (hT : xT G m) : xT (xG4 G h) (xmna m G.2.2.1) := by
  intro a k b ha hr ht
  have ha' : a < G.2.2.1 + 4 := ha
  by_cases h1 : a < G.2.2.1
  · rw [(xmna_other h1).2.2] at hr
    have hk : xkd (xG4 G h) a = xkd G a := congrArg Prod.fst (xG4_kd h1)
    rw [hk] at ht ⊢
    obtain ⟨g1, g2⟩ := hT a k b h1 hr ht
    exact ⟨by show b < G.2.2.1 + 4; omega, (congrArg Prod.fst (xG4_kd g1)).trans g2⟩
  · by_cases h2 : a = G.2.2.1
    · subst h2
      rw [xmna_out] at hr
      have hk := congrArg Prod.fst (xG4_new (G := G) (h := h) 0 (by omega)).2
      have hk : xkd (xG4 G h) G.2.2.1 = 13 := hk
      rw [hk]
      by_cases hj : k < 3
      · simp only [if_pos hj] at hr
        cases hr
        have h3 := congrArg Prod.fst (xG4_new (G := G) (h := h) (1 + k) (by omega)).2
        rw [if_neg (by omega)] at h3
        exact ⟨by show G.2.2.1 + 1 + k < G.2.2.1 + 4; omega, by rw [show G.2.2.1 + 1 + k = G.2.2.1 + (1 + k) by omega]; exact h3⟩
      · simp only [if_neg hj] at hr
        cases hr
    · have h3 : a = G.2.2.1 + 1 + (a - G.2.2.1 - 1) := by omega
      rw [h3, (xmna_in (by omega)).2] at hr
      cases hr
section XNM
variable {α : Type} {E : XE} {Q : α → State → Prop} {G : XG} {l : Launch} {X : XX} {M : XD} {pc : Nat} {m : XM} {t : Option α} {lvf : XG → List (Nat × Value)} {stf : XG → List Value}
theorem xj_mna (F : xF E G X M) {idx : Nat} (hA : ∀ q, X.2.2.1.heap.size ≤ q → E.2.1 q) (hlk : Cond.classLink M.1.cls idx "[[I" ∈ xB) (harr : Cond.arrayClass .int ∈ xB) (hc : E.2.2.1 + 4 ≤ E.1.cells) (hs : E.2.2.2 + 24 ≤ E.1.slots) (hd : decode M.2.1 pc = .ok (.multianewarray idx 2, 4)) {n : Nat} (hgn : G.2.2.1 = n) (hlv : ∀ G' : XG, (∀ i, i < G.2.2.1 → xad G' i = xad G i) → lvf G' = lvf G ∧ stf G' = stf G)
    (c : ∀ G' : XG, xgrow G G' X.2.2.1.heap.size [(13, 3), (10, 7), (10, 7), (10, 7)] → G'.2.2.1 = n + 4 → isa G' n 13 → xF (xEa E 4 24) G' X M → xJ (xEa E 4 24) Q G' l X M (pc + 4) (lvf G') (.ref (xad G' n) :: stf G') (xmna m n) t) : xJ E Q G l X M pc (lvf G) (.int 7 :: .int 3 :: stf G) m t := by
  intro z hz H locs ls hP hS hT hl T hTh Xs
  subst hgn
  have hK := F.2.2.2.2.2.2.2.1
  obtain ⟨vm₁, cA, comp, fA, fC, X', step⟩ := xm_mna Xs F.1 F.2.2.2.2.1 (index := idx) (F.2.2.2.2.2.1 _ hlk) (over_moved (Vm.Alike.refl _) (xFs F).2.2.2.2) (F.2.2.2.2.2.1 _ harr) (g := F0 X.2.2.2.1 pc ls (.int 7 :: .int 3 :: stf G)) rfl (by rw [F.2.1]; exact hd) rfl hc hs
  have ecA : cA = G.2.1.2.2.2 := Option.some.inj (fA.symm.trans (hK.2 3 _ rfl).2)
  have ecI : comp = G.2.1.1 := Option.some.inj (fC.symm.trans (hK.2 0 _ rfl).2)
  subst ecA
  subst ecI
  have hTh' : (T.setVm vm₁).heap = H := hTh
  have f1 := xm_size (T.setVm vm₁) G.2.1.2.2.2 G.2.1.1 3
  have f2 := xm_out (T.setVm vm₁) G.2.1.2.2.2 G.2.1.1 3
  have f3 := fun (x : Nat) (hx : x < (T.setVm vm₁).heap.size) => xm_old (T.setVm vm₁) G.2.1.2.2.2 G.2.1.1 hx 3
  have f4 := xm_in (T.setVm vm₁) G.2.1.2.2.2 G.2.1.1 3
  generalize xm_st (T.setVm vm₁) G.2.1.2.2.2 G.2.1.1 3 = FF at X' step f1 f2 f3 f4
  rw [hTh'] at f1 f2 f3 f4
  have hold : ∀ x : Nat, x < H.size → FF.heap[x]? = H[x]? := f3
  have hrow : ∀ j : Nat, j < 3 → FF.heap[H.size + 1 + j]? = some (arrV G.2.1.1 7 (fun _ => .int 0)) := f4
  have f2 : FF.heap[H.size]? = some (arrV G.2.1.2.2.2 3 (fun j => va_rf (if j < 3 then some (H.size + 1 + j) else none))) := f2
  have hsz : FF.heap.size = H.size + 4 := by rw [f1]
  have hlt : ∀ i, i < G.2.2.1 → xad G i < H.size := fun i hi => (hP i _ (xget m hi)).lt
  have hPn : va_P (xG4 G H.size).1.1 vwCl (xw (xG4 G H.size) (xmna m G.2.2.1)) FF.heap := by
    intro k q hk
    obtain ⟨h1, rfl⟩ := xw_at hk
    have h1' : k < G.2.2.1 + 4 := h1
    by_cases h2 : k < G.2.2.1
    · have hx : xc (xG4 G H.size) (xmna m G.2.2.1) k = xc G m k := by
        have e1 : xc (xG4 G H.size) (xmna m G.2.2.1) k = xc (xG4 G H.size) (xz (xz (xz (xz m G.2.2.1) (G.2.2.1 + 1)) (G.2.2.1 + 2)) (G.2.2.1 + 3)) k := by
          obtain ⟨o1, o2, o3⟩ := xmna_other (m := m) h2
          refine xc_other ?_ ?_ ?_
          · rw [o1, xz_gi _ (by omega), xz_gi _ (by omega), xz_gi _ (by omega), xz_gi _ (by omega)]
          · rw [o2, xz_gl _ (by omega), xz_gl _ (by omega), xz_gl _ (by omega), xz_gl _ (by omega)]
          · rw [o3, xz_gr _ (by omega), xz_gr _ (by omega), xz_gr _ (by omega), xz_gr _ (by omega)]
        rw [e1]
        have t1 := xT_push (q := H.size) (kl := (13, 3)) hT
        have t2 := xT_push (q := H.size + 1) (kl := (10, 7)) t1
        have t3 := xT_push (q := H.size + 2) (kl := (10, 7)) t2
        exact (xc_push t3 (show k < G.2.2.1 + 1 + 1 + 1 by omega)).trans ((xc_push t2 (show k < G.2.2.1 + 1 + 1 by omega)).trans ((xc_push t1 (show k < G.2.2.1 + 1 by omega)).trans (xc_push hT h2)))
      have hA1 := hP k _ (xget m h2)
      rw [hx, xG4_ad h2]
      exact hA1.kept (hold _ (hlt k h2))
    · obtain ⟨j, hj, rfl⟩ : ∃ j, j < 4 ∧ k = G.2.2.1 + j := ⟨k - G.2.2.1, by omega, by omega⟩
      obtain ⟨n1, n2⟩ := xG4_new (G := G) (h := H.size) j hj
      rw [n1]
      by_cases h0 : j = 0
      · subst h0
        rw [if_pos rfl] at n2
        rw [xc_O (congrArg Prod.fst n2)]
        show FF.heap[H.size + 0]? = some (vp_cell _ (xln (xG4 G H.size) (G.2.2.1 + 0), _))
        rw [show xln (xG4 G H.size) (G.2.2.1 + 0) = 3 from congrArg Prod.snd n2, vp_cell_q, Nat.add_zero, Nat.add_zero, f2]
        refine congrArg some (congrArg (arrV _ 3) (funext fun i => congrArg va_rf ?_))
        show _ = Option.map (xad (xG4 G H.size)) (gr (xmna m G.2.2.1) G.2.2.1 i)
        rw [xmna_out]
        by_cases hi : i < 3
        · simp only [if_pos hi, Option.map_some]
          rw [show G.2.2.1 + 1 + i = G.2.2.1 + (1 + i) by omega, (xG4_new (1 + i) (by omega)).1]
          exact congrArg some (by omega)
        · simp only [if_neg hi]
          rfl
      · rw [if_neg h0] at n2
        rw [xc_I (congrArg Prod.fst n2)]
        show FF.heap[H.size + j]? = some (vp_cell _ (xln (xG4 G H.size) (G.2.2.1 + j), _))
        have h3 := (xmna_in (m := m) (n := G.2.2.1) (j := j - 1) (by omega)).1
        rw [show G.2.2.1 + 1 + (j - 1) = G.2.2.1 + j by omega] at h3
        rw [show xln (xG4 G H.size) (G.2.2.1 + j) = 7 from congrArg Prod.snd n2, vp_cell_i, h3]
        have h4 := hrow (j - 1) (by omega)
        rw [show H.size + 1 + (j - 1) = H.size + j by omega] at h4
        exact h4
  have hg : xgrow G (xG4 G H.size) X.2.2.1.heap.size [(13, 3), (10, 7), (10, 7), (10, 7)] := by
    refine ⟨rfl, rfl, rfl, fun i hi => ⟨xG4_ad hi, xG4_kd hi⟩, fun i hi => ?_⟩
    have hi' : i < 4 := hi
    obtain ⟨n1, n2⟩ := xG4_new (G := G) (h := H.size) i hi'
    rw [n1, n2]
    refine ⟨Nat.le_trans hS.1 (Nat.le_add_right _ _), ?_⟩
    rcases (show i = 0 ∨ i = 1 ∨ i = 2 ∨ i = 3 by omega) with rfl | rfl | rfl | rfl <;> rfl
  have hS1 : va_S E.2.1 X.2.2.1.heap FF.heap locs := ⟨Nat.le_trans hS.1 (by omega), fun q h1 h2 => (hold q (Nat.lt_of_lt_of_le h1 hS.1)).trans (hS.2.1 q h1 h2), hS.2.2⟩
  have F1 : xF (xEa E 4 24) (xG4 G H.size) X M := by
    obtain ⟨g1, g2, g3, g4, g5, g6, g7, g8, g9, g10, g11, -⟩ := F
    refine ⟨g1, g2, g3, g4, g5, g6, g7, g8, ?_, g10, ?_, hc, hs⟩
    · intro i j hi hj he
      have hi' : i < G.2.2.1 + 4 := hi
      have hj' : j < G.2.2.1 + 4 := hj
      have hv : ∀ i, i < G.2.2.1 + 4 → (i < G.2.2.1 ∧ xad (xG4 G H.size) i = xad G i ∧ xad G i < H.size) ∨ (G.2.2.1 ≤ i ∧ xad (xG4 G H.size) i = H.size + (i - G.2.2.1)) := fun i hi => by
        by_cases h : i < G.2.2.1
        · exact Or.inl ⟨h, xG4_ad h, hlt i h⟩
        · have := (xG4_new (G := G) (h := H.size) (i - G.2.2.1) (by omega)).1
          rw [show G.2.2.1 + (i - G.2.2.1) = i by omega] at this
          exact Or.inr ⟨by omega, this⟩
      rcases hv i hi' with ⟨a1, a2, a3⟩ | ⟨a1, a2⟩ <;> rcases hv j hj' with ⟨b1, b2, b3⟩ | ⟨b1, b2⟩
      · exact g9 i j a1 b1 (by rw [← a2, ← b2]; exact he)
      · omega
      · omega
      · omega
    · intro i hi
      have hi' : i < G.2.2.1 + 4 := hi
      by_cases h : i < G.2.2.1
      · rw [xG4_ad h]; exact g11 i h
      · have := (xG4_new (G := G) (h := H.size) (i - G.2.2.1) (by omega)).1
        rw [show G.2.2.1 + (i - G.2.2.1) = i by omega] at this
        rw [this]
        exact hA _ (Nat.le_trans hS.1 (Nat.le_add_right _ _))
  have hl2 := hlv (xG4 G H.size) (fun i hi => xG4_ad hi)
  have n0 := xG4_new (G := G) (h := H.size) 0 (by omega)
  have k := c (xG4 G H.size) hg rfl ⟨by show G.2.2.1 < G.2.2.1 + 4; omega, congrArg Prod.fst n0.2⟩ F1 z hz FF.heap locs ls hPn hS1 (xmna_T hT) (by rw [hl2.1]; exact hl)
  have e0 : xad (xG4 G H.size) G.2.2.1 = H.size := n0.1
  rw [e0, hl2.2] at k
  obtain ⟨t2, a1, b1⟩ := k FF rfl X'
  refine ⟨t2, step t2 ?_, b1⟩
  rw [hTh]
  exact a1
end XNM
/-! ===== the links of constructors ===== -/
def xpF (own : String) (idx ci k u : Nat) : Prop := ci < 10 ∧ (xtab.getD ci [])[k]? = some (u + 1) ∧ ∃ (C : String) (T : u_T) (N : Nat) (ty0 : Nat → FieldType) (ty : FieldType), vwCl[ci]? = some (C, T, N) ∧ k < N ∧ (∀ w ∈ u_ws C T N, w ∈ xB) ∧ Cond.fieldLink own idx (T k).1 (T k).2.1 (T k).2.2.1 ∈ xB ∧ (∀ k, k < N → parseFieldDescriptor (T k).2.2.1 = some (ty0 k)) ∧ (∀ a, a < N → ∀ b, b < N → a ≠ b → (T a).2.1 ≠ (T b).2.1) ∧ (T k).2.2.2 = true ∧ (T k).1 = own ∧ parseFieldDescriptor (T k).2.2.1 = some ty ∧ (∀ v : Nat, narrow ty (.ref v) = .ref v) ∧ ∀ v : Nat, fits ty (.ref v) = true
def xnc (own : String) (idx ci N : Nat) : Prop := ci < 10 ∧ ∃ (C : String) (T : u_T) (ty : Nat → FieldType), vwCl[ci]? = some (C, T, N) ∧ (∀ w ∈ u_ws C T N, w ∈ xB) ∧ (∀ k, k < N → parseFieldDescriptor (T k).2.2.1 = some (ty k)) ∧ (∀ j, j < N → ∃ t, (xtab.getD ci [])[j]? = some t ∧ defaultValue (ty j) = if t = 0 then .int 0 else .null) ∧ Cond.classLink own idx C ∈ xB ∧ Cond.instantiable C N ∈ xB ∧ Cond.initialized C ∈ xB
section XNL
variable {α : Type} {E : XE} {Q : α → State → Prop} {G : XG} {l : Launch} {X : XX} {M : XD} {pc : Nat} {lv : List (Nat × Value)} {st : List Value} {m : XM} {t : Option α} {lvf : XG → List (Nat × Value)} {stf : XG → List Value}
theorem xj_putF1 (F : xF E G X M) {a idx ci k u v : Nat} {κ : XM → Option α} (hm : X.2.2.2.2.2.2.1.name = "<init>") (ha : isa G a ci) (hf : xpF M.1.cls idx ci k u) (hv : isa G v u) (hd : decode M.2.1 pc = .ok (.putfield idx, 3)) (c : ∀ m', xJ E Q G l X M (pc + 3) lv st m' (κ m')) : xJ E Q G l X M pc lv (.ref (xad G v) :: .ref (xad G a) :: st) m (xv (sr m a k (some v)) κ) := by
  obtain ⟨h1, h2, C, T, N, ty0, ty, h3, h4, h5, h6, h7, h8, h9, h10, h11, h12, h13⟩ := hf
  exact xj_putF F hm ha h1 h3 h4 h5 h6 h7 h8 h9 h10 h11 h12 h13 h2 hv hd c
theorem xj_newC1 (F : xF E G X M) {ci idx N n : Nat} (hA : ∀ q, X.2.2.1.heap.size ≤ q → E.2.1 q) (hf : xnc M.1.cls idx ci N) (hc : E.2.2.1 + 1 ≤ E.1.cells) (hs : E.2.2.2 + N ≤ E.1.slots) (hd : decode M.2.1 pc = .ok (.new idx, 3)) (hgn : G.2.2.1 = n) (hlv : ∀ G' : XG, (∀ i, i < G.2.2.1 → xad G' i = xad G i) → lvf G' = lvf G ∧ stf G' = stf G)
    (c : ∀ G' : XG, xgrow G G' X.2.2.1.heap.size [(ci, 0)] → G'.2.2.1 = n + 1 → isa G' n ci → xF (xEa E 1 N) G' X M → xJ (xEa E 1 N) Q G' l X M (pc + 3) (lvf G') (.ref (xad G' n) :: stf G') (xz m n) t) : xJ E Q G l X M pc (lvf G) (stf G) m t := by
  obtain ⟨h1, C, T, ty, h2, h3, h4, h5, h6, h7, h8⟩ := hf
  exact xj_newC F hA h1 h2 h3 h4 h5 h6 h7 h8 hc hs hd hgn hlv c
theorem xj_newA_I (F : xF E G X M) {len n : Nat} {nn : Int32} (hA : ∀ q, X.2.2.1.heap.size ≤ q → E.2.1 q) (harr : Cond.arrayClass .int ∈ xB) (hn : ¬ nn < 0) (hN : nn.toNatClampNeg = len) (hb : len * 4 ≤ 536870912) (hc : E.2.2.1 + 1 ≤ E.1.cells) (hs : E.2.2.2 + len ≤ E.1.slots) (hd : decode M.2.1 pc = .ok (.newarray .int, 2)) (hgn : G.2.2.1 = n) (hlv : ∀ G' : XG, (∀ i, i < G.2.2.1 → xad G' i = xad G i) → lvf G' = lvf G ∧ stf G' = stf G)
    (c : ∀ G' : XG, xgrow G G' X.2.2.1.heap.size [(10, len)] → G'.2.2.1 = n + 1 → isa G' n 10 → xF (xEa E 1 len) G' X M → xJ (xEa E 1 len) Q G' l X M (pc + 2) (lvf G') (.ref (xad G' n) :: stf G') (xz m n) t) : xJ E Q G l X M pc (lvf G) (.int nn :: stf G) m t :=
  xj_newA F (atype := .int) (ty := .int) (ti := 0) (cy := G.2.1.1) hA rfl rfl (fun h => h) xnewI harr hn hN hb hc hs hd hgn hlv c
theorem xj_newA_Z (F : xF E G X M) {len n : Nat} {nn : Int32} (hA : ∀ q, X.2.2.1.heap.size ≤ q → E.2.1 q) (harr : Cond.arrayClass .boolean ∈ xB) (hn : ¬ nn < 0) (hN : nn.toNatClampNeg = len) (hb : len * 1 ≤ 536870912) (hc : E.2.2.1 + 1 ≤ E.1.cells) (hs : E.2.2.2 + len ≤ E.1.slots) (hd : decode M.2.1 pc = .ok (.newarray .boolean, 2)) (hgn : G.2.2.1 = n) (hlv : ∀ G' : XG, (∀ i, i < G.2.2.1 → xad G' i = xad G i) → lvf G' = lvf G ∧ stf G' = stf G)
    (c : ∀ G' : XG, xgrow G G' X.2.2.1.heap.size [(12, len)] → G'.2.2.1 = n + 1 → isa G' n 12 → xF (xEa E 1 len) G' X M → xJ (xEa E 1 len) Q G' l X M (pc + 2) (lvf G') (.ref (xad G' n) :: stf G') (xz m n) t) : xJ E Q G l X M pc (lvf G) (.int nn :: stf G) m t :=
  xj_newA F (atype := .boolean) (ty := .boolean) (ti := 2) (cy := G.2.1.2.2.1) hA rfl rfl (fun h => h) xnewZ harr hn hN hb hc hs hd hgn hlv c
theorem xj_newA_J (F : xF E G X M) {len n : Nat} {nn : Int32} (hA : ∀ q, X.2.2.1.heap.size ≤ q → E.2.1 q) (harr : Cond.arrayClass .long ∈ xB) (hn : ¬ nn < 0) (hN : nn.toNatClampNeg = len) (hb : len * 8 ≤ 536870912) (hc : E.2.2.1 + 1 ≤ E.1.cells) (hs : E.2.2.2 + len ≤ E.1.slots) (hd : decode M.2.1 pc = .ok (.newarray .long, 2)) (hgn : G.2.2.1 = n) (hlv : ∀ G' : XG, (∀ i, i < G.2.2.1 → xad G' i = xad G i) → lvf G' = lvf G ∧ stf G' = stf G)
    (c : ∀ G' : XG, xgrow G G' X.2.2.1.heap.size [(11, len)] → G'.2.2.1 = n + 1 → isa G' n 11 → xF (xEa E 1 len) G' X M → xJ (xEa E 1 len) Q G' l X M (pc + 2) (lvf G') (.ref (xad G' n) :: stf G') (xz m n) t) : xJ E Q G l X M pc (lvf G) (.int nn :: stf G) m t :=
  xj_newA F (atype := .long) (ty := .long) (ti := 1) (cy := G.2.1.2.1) hA rfl rfl (fun h => h) xnewJ harr hn hN hb hc hs hd hgn hlv c
end XNL
