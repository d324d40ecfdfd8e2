/-! ===== x: rows of the heap, of calls, of returns ===== -/
/-- the words of a field at a link -/
def xfl (own : String) (idx ci k : Nat) : Prop := ∃ (C : String) (T : u_T) (N : Nat), vwCl[ci]? = some (C, T, N) ∧ k < N ∧ (∀ w ∈ u_ws C T N, w ∈ xB) ∧ Cond.fieldLink own idx (T k).1 (T k).2.1 (T k).2.2.1 ∈ xB
def xfp (own : String) (idx ci k : Nat) (ty : FieldType) : Prop := ∃ (C : String) (T : u_T) (N : Nat) (ty0 : Nat → FieldType), vwCl[ci]? = some (C, T, N) ∧ k < N ∧ (∀ w ∈ u_ws C T N, w ∈ xB) ∧ Cond.fieldLink own idx (T k).1 (T k).2.1 (T k).2.2.1 ∈ xB ∧ (∀ k, k < N → parseFieldDescriptor (T k).2.2.1 = some (ty0 k)) ∧ (∀ a, a < N → ∀ b, b < N → a ≠ b → (T a).2.1 ≠ (T b).2.1) ∧ (T k).2.2.2 = false ∧ parseFieldDescriptor (T k).2.2.1 = some ty
def xgI (own : String) (idx ci k : Nat) : Prop := xfl own idx ci k ∧ ci < 10 ∧ (xtab.getD ci [])[k]? = some 0
def xgR (own : String) (idx ci k u : Nat) : Prop := xfl own idx ci k ∧ ci < 10 ∧ (xtab.getD ci [])[k]? = some (u + 1)
def xpI (own : String) (idx ci k : Nat) (ty : FieldType) : Prop := xfp own idx ci k ty ∧ ci < 10 ∧ (xtab.getD ci [])[k]? = some 0
def xpR (own : String) (idx ci k u : Nat) (ty : FieldType) : Prop := xfp own idx ci k ty ∧ ci < 10 ∧ (xtab.getD ci [])[k]? = some (u + 1) ∧ (∀ v : Nat, narrow ty (.ref v) = .ref v) ∧ ∀ v : Nat, fits ty (.ref v) = true
theorem xT_si {G : XG} {m : XM} (h : xT G m) (a k : Nat) (v : Int32) : xT G (si m a k v) := h
theorem xT_sl {G : XG} {m : XM} (h : xT G m) (a k : Nat) (v : Int64) : xT G (sl m a k v) := h
theorem xT_sr {G : XG} {m : XM} (h : xT G m) {a k v : Nat} (hv : isa G v (xty (xkd G a) k - 1)) : xT G (sr m a k (some v)) := by
  intro b j c hb hc ht
  by_cases h1 : b = a
  · subst h1
    by_cases h2 : j = k
    · subst h2
      have e : gr (sr m b j (some v)) b j = some v := xup_same _ _ _ _
      rw [e] at hc
      cases hc
      exact hv
    · refine h b j c hb ?_ ht
      rw [← hc]
      show _ = xup m.2.2 b k (some v) b j
      rw [xup_row]
      simp [h2, gr]
  · refine h b j c hb ?_ ht
    rw [← hc]
    show _ = xup m.2.2 a k (some v) b j
    rw [xup_ne _ _ _ h1]
    rfl
section XH
variable {α : Type} {E : XE} {Q : α → State → Prop} {G : XG} {l : Launch} {X : XX} {M : XD} {pc : Nat} {lv lv' : List (Nat × Value)} {st : List Value} {m : XM} {t : Option α}
theorem xj_get (F : xF E G X M) {a idx ci k : Nat} {κ : Int32 → Option α} (ha : isa G a ci) (hf : xgI M.1.cls idx ci k) (hd : decode M.2.1 pc = .ok (.getfield idx, 3)) (c : ∀ v, xJ E Q G l X M (pc + 3) lv (.int v :: st) m (κ v)) : xJ E Q G l X M pc lv (.ref (xad G a) :: st) m (xv (gi m a k) κ) := by
  intro z hz H locs ls hP hS hT hl
  obtain ⟨⟨C, T, N, hc, hkN, hin, hlk⟩, hci, hk⟩ := hf
  have hq := xget m ha.1
  rw [xc_obj ha.2 hci] at hq
  have hg := xfs_get G m a (xtab.getD ci []) 0 k 0 hk
  rw [if_pos rfl, Nat.zero_add] at hg
  exact va_get F.1 F.2.1 F.2.2.2.2.2.1 hin F.2.2.2.2.1 F.2.2.2.2.2.2.2.1 hP a hq hc k hkN (F.2.2.2.2.2.1 _ hlk) (fun _ h9 => h9) hg hd (c _ z hz H locs ls hP hS hT hl)
theorem xj_getR (F : xF E G X M) {a idx ci k u : Nat} {κ : Nat → Option α} (ha : isa G a ci) (hf : xgR M.1.cls idx ci k u) (hd : decode M.2.1 pc = .ok (.getfield idx, 3)) (c : ∀ v, isa G v u → xJ E Q G l X M (pc + 3) lv (.ref (xad G v) :: st) m (κ v)) : xJ E Q G l X M pc lv (.ref (xad G a) :: st) m (xgr m a k κ) := by
  intro z hz H locs ls hP hS hT hl
  obtain ⟨⟨C, T, N, hc, hkN, hin, hlk⟩, hci, hk⟩ := hf
  have hq := xget m ha.1
  rw [xc_obj ha.2 hci] at hq
  have hg := xfs_get G m a (xtab.getD ci []) 0 k (u + 1) hk
  rw [if_neg (Nat.succ_ne_zero u), Nat.zero_add] at hg
  unfold xgr at hz
  cases hr : gr m a k with
  | none => rw [hr] at hz; cases hz
  | some b =>
    rw [hr] at hz hg
    have ety : xty (xkd G a) k = u + 1 := by
      rw [ha.2, xty, if_neg (by omega), List.getD_eq_getElem?_getD, hk]
      rfl
    have hb := hT a k b ha.1 hr (by rw [ety]; exact Nat.succ_ne_zero u)
    rw [ety] at hb
    exact va_get F.1 F.2.1 F.2.2.2.2.2.1 hin F.2.2.2.2.1 F.2.2.2.2.2.2.2.1 hP a hq hc k hkN (F.2.2.2.2.2.1 _ hlk) (fun _ h9 => h9) hg hd (c b hb z hz H locs ls hP hS hT hl)
theorem xsi_other {G : XG} (m : XM) (a k : Nat) (v : Int32) (b : Nat) (h : b ≠ a) : xc G (si m a k v) b = xc G m b := xc_other (show xup m.1 a k v b = m.1 b from xup_ne _ _ _ h) rfl rfl
theorem xsl_other {G : XG} (m : XM) (a k : Nat) (v : Int64) (b : Nat) (h : b ≠ a) : xc G (sl m a k v) b = xc G m b := xc_other rfl (show xup m.2.1 a k v b = m.2.1 b from xup_ne _ _ _ h) rfl
theorem xsr_other {G : XG} (m : XM) (a k : Nat) (v : Option Nat) (b : Nat) (h : b ≠ a) : xc G (sr m a k v) b = xc G m b := xc_other rfl rfl (show xup m.2.2 a k v b = m.2.2 b from xup_ne _ _ _ h)
theorem xj_putG (F : xF E G X M) {a idx ci k w : Nat} {ty : FieldType} {v : Value} {m' : XM} (ha : isa G a ci) (hf : xfp M.1.cls idx ci k ty) (hci : ci < 10) (hk : (xtab.getD ci [])[k]? = some w) (hn : narrow ty v = v) (hfit : fits ty v = true) (hd : decode M.2.1 pc = .ok (.putfield idx, 3)) (he : xfs G m' a 0 (xtab.getD ci []) = (xfs G m a 0 (xtab.getD ci [])).set k v) (ho : ∀ b, b ≠ a → xc G m' b = xc G m b) (hT' : xT G m → xT G m') (c : xJ E Q G l X M (pc + 3) lv st m' t) : xJ E Q G l X M pc lv (v :: .ref (xad G a) :: st) m t := by
  intro z hz H locs ls hP hS hT hl
  obtain ⟨C, T, N, ty0, hc, hkN, hin, hlk, hty, hnm, hfin, hpd⟩ := hf
  have hq := xget m ha.1
  rw [xc_obj ha.2 hci] at hq
  refine va_put F.1 F.2.1 F.2.2.2.2.2.1 hin ty0 hty hnm F.2.2.2.2.1 F.2.2.2.2.2.2.2.1 hP (xD (xnd F) (xFA F) m) hS a hq hc k hkN (F.2.2.2.2.2.1 _ hlk) (fun _ h9 => h9) hfin hpd hn hfit ?_ hd (fun H1 locs1 hP1 _ hS1 => ?_)
  · rw [xfs_len]
    exact (List.getElem?_eq_some_iff.mp hk).1
  · rw [xset (m' := m') ha.1 (by rw [xc_obj ha.2 hci, he]) ho] at hP1
    exact c z hz H1 locs1 ls hP1 hS1 (hT' hT) hl
theorem xj_put (F : xF E G X M) {a idx ci k : Nat} {v : Int32} {κ : XM → Option α} (ha : isa G a ci) (hf : xpI M.1.cls idx ci k .int) (hd : decode M.2.1 pc = .ok (.putfield idx, 3)) (c : ∀ m', xJ E Q G l X M (pc + 3) lv st m' (κ m')) : xJ E Q G l X M pc lv (.int v :: .ref (xad G a) :: st) m (xv (si m a k v) κ) :=
  xj_putG (m' := si m a k v) F ha hf.1 hf.2.1 hf.2.2 rfl rfl hd (xfs_set _ _ _ _ _ _ 0 k 0 hf.2.2 (by rw [if_pos rfl, Nat.zero_add]; exact congrArg Value.int (xup_same _ _ _ _)) (fun i hi => ⟨by show xup _ _ _ _ _ _ = _; rw [xup_row]; rw [Nat.zero_add] at hi; simp [hi, gi], rfl⟩)) (xsi_other m a k v) (fun h => h) (c _)
theorem xj_putZ (F : xF E G X M) {a idx ci k : Nat} {v : Int32} {κ : XM → Option α} (ha : isa G a ci) (hf : xpI M.1.cls idx ci k .boolean) (hn : narrow .boolean (.int v) = .int v) (hfit : fits .boolean (.int v) = true) (hd : decode M.2.1 pc = .ok (.putfield idx, 3)) (c : ∀ m', xJ E Q G l X M (pc + 3) lv st m' (κ m')) : xJ E Q G l X M pc lv (.int v :: .ref (xad G a) :: st) m (xv (si m a k v) κ) :=
  xj_putG (m' := si m a k v) F ha hf.1 hf.2.1 hf.2.2 hn hfit hd (xfs_set _ _ _ _ _ _ 0 k 0 hf.2.2 (by rw [if_pos rfl, Nat.zero_add]; exact congrArg Value.int (xup_same _ _ _ _)) (fun i hi => ⟨by show xup _ _ _ _ _ _ = _; rw [xup_row]; rw [Nat.zero_add] at hi; simp [hi, gi], rfl⟩)) (xsi_other m a k v) (fun h => h) (c _)
theorem xj_putR (F : xF E G X M) {a idx ci k u v : Nat} {ty : FieldType} {κ : XM → Option α} (ha : isa G a ci) (hf : xpR M.1.cls idx ci k u ty) (hv : isa G v u) (hd : decode M.2.1 pc = .ok (.putfield idx, 3)) (c : ∀ m', xJ E Q G l X M (pc + 3) lv st m' (κ m')) : xJ E Q G l X M pc lv (.ref (xad G v) :: .ref (xad G a) :: st) m (xv (sr m a k (some v)) κ) := by
  obtain ⟨hf, hci, hk, hn, hfit⟩ := hf
  have ety : xty (xkd G a) k = u + 1 := by
    rw [ha.2, xty, if_neg (by omega), List.getD_eq_getElem?_getD, hk]
    rfl
  exact xj_putG (m' := sr m a k (some v)) F ha hf hci hk (hn _) (hfit _) hd (xfs_set _ _ _ _ _ _ 0 k (u + 1) hk (by rw [if_neg (Nat.succ_ne_zero u), Nat.zero_add]; exact congrArg (fun o => va_rf (Option.map (xad G) o)) (xup_same _ _ _ _)) (fun i hi => ⟨rfl, by show xup _ _ _ _ _ _ = _; rw [xup_row]; rw [Nat.zero_add] at hi; simp [hi, gr]⟩)) (xsr_other m a k (some v)) (fun h => xT_sr h (by rw [ety]; exact hv)) (c _)
-- arrays
theorem xj_iald (F : xF E G X M) {a : Nat} {i : Int32} {κ : Int32 → Option α} (ha : isa G a 10) (hd : decode M.2.1 pc = .ok (.iaload, 1)) (c : ∀ v, xJ E Q G l X M (pc + 1) lv (.int v :: st) m (κ v)) : xJ E Q G l X M pc lv (.int i :: .ref (xad G a) :: st) m (xald (xln G) m a i κ) := by
  intro z hz H locs ls hP hS hT hl
  have hq := xget m ha.1
  rw [xc_I ha.2] at hq
  by_cases h : xin i (xln G a)
  · rw [xald, if_pos h] at hz
    exact va_iald F.1 F.2.1 F.2.2.2.2.2.2.2.1 hP a 0 hq rfl (xin_vp h) hd (c _ z hz H locs ls hP hS hT hl)
  · rw [xald, if_neg h] at hz; cases hz
theorem xj_zald (F : xF E G X M) {a : Nat} {i : Int32} {κ : Int32 → Option α} (ha : isa G a 12) (hd : decode M.2.1 pc = .ok (.baload, 1)) (c : ∀ v, xJ E Q G l X M (pc + 1) lv (.int v :: st) m (κ v)) : xJ E Q G l X M pc lv (.int i :: .ref (xad G a) :: st) m (xald (xln G) m a i κ) := by
  intro z hz H locs ls hP hS hT hl
  have hq := xget m ha.1
  rw [xc_Z ha.2] at hq
  by_cases h : xin i (xln G a)
  · rw [xald, if_pos h] at hz
    exact va_zald F.1 F.2.1 F.2.2.2.2.2.2.2.1 hP a 2 hq rfl (xin_vp h) hd (c _ z hz H locs ls hP hS hT hl)
  · rw [xald, if_neg h] at hz; cases hz
theorem xj_lald (F : xF E G X M) {a : Nat} {i : Int32} {κ : Int64 → Option α} (ha : isa G a 11) (hd : decode M.2.1 pc = .ok (.laload, 1)) (c : ∀ v, xJ E Q G l X M (pc + 1) lv (.long v :: st) m (κ v)) : xJ E Q G l X M pc lv (.int i :: .ref (xad G a) :: st) m (xlld (xln G) m a i κ) := by
  intro z hz H locs ls hP hS hT hl
  have hq := xget m ha.1
  rw [xc_J ha.2] at hq
  by_cases h : xin i (xln G a)
  · rw [xlld, if_pos h] at hz
    exact va_lald F.1 F.2.1 F.2.2.2.2.2.2.2.1 hP a 1 hq rfl (xin_vp h) hd (c _ z hz H locs ls hP hS hT hl)
  · rw [xlld, if_neg h] at hz; cases hz
theorem xj_aald (F : xF E G X M) {a : Nat} {i : Int32} {κ : Nat → Option α} (ha : isa G a 13) (hd : decode M.2.1 pc = .ok (.aaload, 1)) (c : ∀ v, isa G v 10 → xJ E Q G l X M (pc + 1) lv (.ref (xad G v) :: st) m (κ v)) : xJ E Q G l X M pc lv (.int i :: .ref (xad G a) :: st) m (xrld (xln G) m a i κ) := by
  intro z hz H locs ls hP hS hT hl
  have hq := xget m ha.1
  rw [xc_O ha.2] at hq
  by_cases h : xin i (xln G a)
  · rw [xrld, if_pos h] at hz
    unfold xgr at hz
    cases hr : gr m a i.toNatClampNeg with
    | none => rw [hr] at hz; cases hz
    | some b =>
      rw [hr] at hz
      have hb := hT a _ b ha.1 hr (by rw [ha.2]; exact fun h => by cases h)
      rw [ha.2] at hb
      have hin := xin_vp h
      have hlt : i.toNatClampNeg < xln G a := h.2
      exact W.aald (v := .ref (xad G b)) (ty := .array .int) F.1 F.2.1 (hP a _ hq) ((F.2.2.2.2.2.2.2.1.2 3 _ rfl).1 (xln G a) (fun j => va_rf ((gr m a j).map (xad G)))) rfl (fun q => by cases q) (by show ¬ (i < 0 ∨ (arrV _ _ _).slots.size ≤ _); rw [arrV_size]; exact hin) (by show (arrV _ _ _).slots[_]? = _; rw [arrV_read _ _ hlt]; show some (va_rf (Option.map (xad G) (gr m a i.toNatClampNeg))) = _; rw [hr]; rfl) rfl rfl hd (c b hb z hz H locs ls hP hS hT hl)
  · rw [xrld, if_neg h] at hz; cases hz
theorem xj_iast (F : xF E G X M) {a : Nat} {i v : Int32} {κ : XM → Option α} (ha : isa G a 10) (hd : decode M.2.1 pc = .ok (.iastore, 1)) (c : ∀ m', xJ E Q G l X M (pc + 1) lv st m' (κ m')) : xJ E Q G l X M pc lv (.int v :: .int i :: .ref (xad G a) :: st) m (xast (xln G) m a i v κ) := by
  intro z hz H locs ls hP hS hT hl
  have hq := xget m ha.1
  rw [xc_I ha.2] at hq
  by_cases h : xin i (xln G a)
  · rw [xast, if_pos h] at hz
    refine va_iast F.1 F.2.1 F.2.2.2.2.2.2.2.1 hP (xD (xnd F) (xFA F) m) hS a 0 hq rfl (xin_vp h) hd (fun H1 locs1 hP1 _ hS1 => ?_)
    rw [xset (m' := si m a i.toNatClampNeg v) ha.1 (by rw [xc_I ha.2]; exact congrArg (fun f => Sum.inl (G.2.1.1, xln G a, Sum.inl f)) (xup_row _ _ _ _)) (xsi_other m a _ v)] at hP1
    exact c _ z hz H1 locs1 ls hP1 hS1 hT hl
  · rw [xast, if_neg h] at hz; cases hz
theorem xj_zast (F : xF E G X M) {a : Nat} {i v : Int32} {κ : XM → Option α} (ha : isa G a 12) (hd : decode M.2.1 pc = .ok (.bastore, 1)) (c : ∀ m', xJ E Q G l X M (pc + 1) lv st m' (κ m')) : xJ E Q G l X M pc lv (.int v :: .int i :: .ref (xad G a) :: st) m (xzst (xln G) m a i v κ) := by
  intro z hz H locs ls hP hS hT hl
  have hq := xget m ha.1
  rw [xc_Z ha.2] at hq
  by_cases h : xin i (xln G a)
  · rw [xzst, if_pos h] at hz
    refine va_zast F.1 F.2.1 F.2.2.2.2.2.2.2.1 hP (xD (xnd F) (xFA F) m) hS a 2 hq rfl (xin_vp h) hd (fun H1 locs1 hP1 _ hS1 => ?_)
    rw [xset (m' := si m a i.toNatClampNeg (vp_nar .boolean v)) ha.1 (by rw [xc_Z ha.2]; exact congrArg (fun f => Sum.inl (G.2.1.2.2.1, xln G a, Sum.inl f)) (xup_row _ _ _ _)) (xsi_other m a _ _)] at hP1
    exact c _ z hz H1 locs1 ls hP1 hS1 hT hl
  · rw [xzst, if_neg h] at hz; cases hz
theorem xj_last (F : xF E G X M) {a : Nat} {i : Int32} {v : Int64} {κ : XM → Option α} (ha : isa G a 11) (hd : decode M.2.1 pc = .ok (.lastore, 1)) (c : ∀ m', xJ E Q G l X M (pc + 1) lv st m' (κ m')) : xJ E Q G l X M pc lv (.long v :: .int i :: .ref (xad G a) :: st) m (xlst (xln G) m a i v κ) := by
  intro z hz H locs ls hP hS hT hl
  have hq := xget m ha.1
  rw [xc_J ha.2] at hq
  by_cases h : xin i (xln G a)
  · rw [xlst, if_pos h] at hz
    refine va_last F.1 F.2.1 F.2.2.2.2.2.2.2.1 hP (xD (xnd F) (xFA F) m) hS a 1 hq rfl (xin_vp h) hd (fun H1 locs1 hP1 _ hS1 => ?_)
    rw [xset (m' := sl m a i.toNatClampNeg v) ha.1 (by rw [xc_J ha.2]; exact congrArg (fun f => Sum.inl (G.2.1.2.1, xln G a, Sum.inr (Sum.inl f))) (xup_row _ _ _ _)) (xsl_other m a _ v)] at hP1
    exact c _ z hz H1 locs1 ls hP1 hS1 hT hl
  · rw [xlst, if_neg h] at hz; cases hz
theorem xj_alen (F : xF E G X M) {a k : Nat} {κ : Int32 → Option α} (ha : isa G a k) (hk : k = 10 ∨ k = 11) (hd : decode M.2.1 pc = .ok (.arraylength, 1)) (c : ∀ v, xJ E Q G l X M (pc + 1) lv (.int v :: st) m (κ v)) : xJ E Q G l X M pc lv (.ref (xad G a) :: st) m (xv (Int32.ofNat (xln G a)) κ) := by
  intro z hz H locs ls hP hS hT hl
  have hq := xget m ha.1
  rcases hk with hk | hk
  · rw [xc_I (ha.2.trans hk)] at hq
    exact va_alen F.1 F.2.1 F.2.2.2.2.2.2.2.1 hP a 0 hq rfl rfl hd (c _ z hz H locs ls hP hS hT hl)
  · rw [xc_J (ha.2.trans hk)] at hq
    exact va_alen F.1 F.2.1 F.2.2.2.2.2.2.2.1 hP a 1 hq rfl rfl hd (c _ z hz H locs ls hP hS hT hl)
-- returns
def xnb {β : Type} (v : Int32) (o : Option β) : Option β := if v = 0 ∨ v = 1 then o else none
theorem xj_ret {d : Nat} (F : xF (xE G d) G X M) {v : Int32} (hr : M.2.2.2.1 = some .int) (hd : decode M.2.1 pc = .ok (.ireturn, 1)) : xJ (xE G d) (xQ xrI G X M) G l X M pc lv [.int v] m (some (v, m)) := by
  intro z hz H locs ls hP hS hT hl
  cases hz
  exact W.iret F.1 F.2.1 (F.2.2.1.trans hr) (fun t ht hW => ⟨rfl, (fun _ h => by cases h), by rw [ht]; exact hP, va_K.moved hW.alike F.2.2.2.2.2.2.2.1, hT, hS.F ht⟩) hS.2.2 hd F.2.2.2.2.2.2.1
theorem xj_retZ {d : Nat} (F : xF (xE G d) G X M) {v : Int32} (hr : M.2.2.2.1 = some .boolean) (hn : narrow .boolean (.int v) = .int v) (hd : decode M.2.1 pc = .ok (.ireturn, 1)) : xJ (xE G d) (xQ xrI G X M) G l X M pc lv [.int v] m (some (v, m)) := by
  intro z hz H locs ls hP hS hT hl
  cases hz
  exact W.zret F.1 F.2.1 (F.2.2.1.trans hr) hn (fun t ht hW => ⟨rfl, (fun _ h => by cases h), by rw [ht]; exact hP, va_K.moved hW.alike F.2.2.2.2.2.2.2.1, hT, hS.F ht⟩) hS.2.2 hd F.2.2.2.2.2.2.1
theorem xj_retB {d : Nat} (F : xF (xE G d) G X M) {v : Int32} (hr : M.2.2.2.1 = some .boolean) (hd : decode M.2.1 pc = .ok (.ireturn, 1)) : xJ (xE G d) (xQ xrI G X M) G l X M pc lv [.int v] m (xnb v (some (v, m))) := by
  intro z hz
  by_cases h : v = 0 ∨ v = 1
  · rw [xnb, if_pos h] at hz
    refine xj_retZ F hr ?_ hd z hz
    rcases h with h | h <;> subst h <;> rfl
  · rw [xnb, if_neg h] at hz; cases hz
theorem xj_ite {c : Prop} [Decidable c] {ta tb : Option α} (ka : c → xJ E Q G l X M pc lv st m ta) (kb : ¬ c → xJ E Q G l X M pc lv st m tb) : xJ E Q G l X M pc lv st m (if c then ta else tb) := by
  by_cases h : c
  · rw [if_pos h]; exact ka h
  · rw [if_neg h]; exact kb h
theorem xj_tabIn (F : xF E G X M) {dflt lo hi : Int} {offs : Array Int} {len : Nat} {x : Int32} {off : Int} (tgt : Nat) (hd : decode M.2.1 pc = .ok (.tableswitch dflt lo hi offs, len)) (h1 : ¬ x.toInt < lo) (h2 : ¬ hi < x.toInt) (ho : offs[(x.toInt - lo).toNat]? = some off) (ht : (pc : Int) + off = (tgt : Int)) (k : xJ E Q G l X M tgt lv st m t) : xJ E Q G l X M pc lv (.int x :: st) m t := fun z hz H locs ls hP hS hT hl => lv_tableIn F.1 F.2.1 hd h1 h2 ho ht (k z hz H locs ls hP hS hT hl)
theorem xj_tabOut (F : xF E G X M) {dflt lo hi : Int} {offs : Array Int} {len : Nat} {x : Int32} (tgt : Nat) (hd : decode M.2.1 pc = .ok (.tableswitch dflt lo hi offs, len)) (h : x.toInt < lo ∨ hi < x.toInt) (ht : (pc : Int) + dflt = (tgt : Int)) (k : xJ E Q G l X M tgt lv st m t) : xJ E Q G l X M pc lv (.int x :: st) m t := fun z hz H locs ls hP hS hT hl => lv_tableOut F.1 F.2.1 hd h ht (k z hz H locs ls hP hS hT hl)
theorem xj_look (F : xF E G X M) {dflt : Int} {ps : Array (Int × Int)} {len : Nat} {x : Int32} {off : Int} (tgt : Nat) (hd : decode M.2.1 pc = .ok (.lookupswitch dflt ps, len)) (hp : (ps.toList.zip (ps.toList.drop 1)).all (fun (a, next) => a.1 < next.1) = true) (ho : Op.lookupswitch.offset ps.toList dflt x.toInt = off) (ht : (pc : Int) + off = (tgt : Int)) (k : xJ E Q G l X M tgt lv st m t) : xJ E Q G l X M pc lv (.int x :: st) m t := fun z hz H locs ls hP hS hT hl => lv_lookup F.1 F.2.1 hd hp ho ht (k z hz H locs ls hP hS hT hl)
theorem xne {x k : Int32} (a : Int) (h : ¬ x = k) (hk : k.toInt = a) : x.toInt ≠ a := fun e => h (Int32.toInt_inj.mp (e.trans hk.symm))
theorem xj_retL {d : Nat} (F : xF (xE G d) G X M) {v : Int64} (hr : M.2.2.2.1 = some .long) (hd : decode M.2.1 pc = .ok (.lreturn, 1)) : xJ (xE G d) (xQ xrL G X M) G l X M pc lv [.long v] m (some (v, m)) := by
  intro z hz H locs ls hP hS hT hl
  cases hz
  exact W.lret F.1 F.2.1 (F.2.2.1.trans hr) (fun t ht hW => ⟨rfl, (fun _ h => by cases h), by rw [ht]; exact hP, va_K.moved hW.alike F.2.2.2.2.2.2.2.1, hT, hS.F ht⟩) hS.2.2 hd F.2.2.2.2.2.2.1
theorem xj_retR {d : Nat} (F : xF (xE G d) G X M) {v : Nat} {rt : FieldType} (hr : M.2.2.2.1 = some rt) (hv : isa G v M.2.2.2.2) (hrt : (∃ n, rt = .object n) ∨ ∃ t, rt = .array t) (hd : decode M.2.1 pc = .ok (.areturn, 1)) : xJ (xE G d) (xQ (xrR G) G X M) G l X M pc lv [.ref (xad G v)] m (some (v, m)) := by
  intro z hz H locs ls hP hS hT hl
  cases hz
  exact W.aret F.1 F.2.1 (F.2.2.1.trans hr) hrt (Or.inr ⟨_, rfl⟩) (fun t ht hW => ⟨rfl, (fun _ h => by cases h; exact hv), by rw [ht]; exact hP, va_K.moved hW.alike F.2.2.2.2.2.2.2.1, hT, hS.F ht⟩) hS.2.2 hd F.2.2.2.2.2.2.1
theorem xj_retV {d : Nat} (F : xF (xE G d) G X M) (hr : M.2.2.2.1 = none) (hd : decode M.2.1 pc = .ok (.return_, 1)) : xJ (xE G d) (xQ xrV G X M) G l X M pc lv [] m (some m) := by
  intro z hz H locs ls hP hS hT hl
  cases hz
  exact W.vret F.1 F.2.1 (F.2.2.1.trans hr) (fun t ht hW => ⟨rfl, (fun _ h => by cases h), by rw [ht]; exact hP, va_K.moved hW.alike F.2.2.2.2.2.2.2.1, hT, hS.F ht⟩) hS.2.2 hd F.2.2.2.2.2.2.1
end XH
