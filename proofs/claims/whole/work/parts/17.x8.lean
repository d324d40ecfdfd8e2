/-! ===== x: methods that throw ===== -/
def xIA : String := "java/lang/IllegalArgumentException"
def xNS : String := "java/util/NoSuchElementException"
/-- words that no reader of steady words carries -/
def xno : List Cond := [.castable xIA xIA, .castable xNS xNS, .declares (Bundle.initS "java/lang/RuntimeException"), .declares (Bundle.initS "java/lang/Exception"), .declares (Bundle.initS Bundle.tN)]
def xNo (U : State) : Prop := ∀ w ∈ xno, w.before #[] U = true
theorem xNo_moved {u U : State} (hvm : u.vm.Alike U.vm) (h : xNo u) : xNo U := by
  have tr : ∀ {c : Cond}, c.onTables = true → c.before #[] (u.setVm U.vm) = true → c.before #[] U = true := by
    intro c hc h
    have e := Cond.onTables_vm (A := #[]) (A' := #[]) (U := u) (U' := U) U.vm c hc
    have hU : U.setVm U.vm = U := rfl
    rw [hU] at e
    rw [← e]
    exact h
  intro w hw
  have h0 := h w hw
  simp only [xno, List.mem_cons, List.not_mem_nil, or_false] at hw
  rcases hw with rfl | rfl | rfl | rfl | rfl
  · exact tr rfl (by rw [Cond.castable_setVm hvm]; exact h0)
  · exact tr rfl (by rw [Cond.castable_setVm hvm]; exact h0)
  · exact tr rfl (by rw [Cond.declares_setVm hvm]; exact h0)
  · exact tr rfl (by rw [Cond.declares_setVm hvm]; exact h0)
  · exact tr rfl (by rw [Cond.declares_setVm hvm]; exact h0)
/-- what a throw needs of a state: two statics of Throwable, the two messages; which class is no other's -/
def xZ (A : Nat → Prop) (U : State) : Prop := vx_Zq Bundle.tN "UNASSIGNED_STACK" Bundle.steD A U U.heap ∧ vx_Zq Bundle.tN "SUPPRESSED_SENTINEL" Bundle.listD A U U.heap ∧ (∃ a, vk_R "BeginJudge" 270 "not to be asked so" a U) ∧ (∃ a, vk_R "BeginJudge" 277 "not there" a U) ∧ va_Nc xIA xNS U ∧ xNo U
theorem xZ_same {A : Nat → Prop} {u U : State} (hv : U.vm = u.vm) (hh : U.heap = u.heap) (h : xZ A u) : xZ A U := by
  obtain ⟨h1, h2, ⟨a, h3⟩, ⟨b, h4⟩, h5, h6⟩ := h
  have ha : u.vm.Alike U.vm := by rw [hv]; exact Vm.Alike.refl _
  refine ⟨?_, ?_, ⟨a, h3.same hv⟩, ⟨b, h4.same hv⟩, h5.moved ha, xNo_moved ha h6⟩
  · rw [hh]; exact h1.moved ha
  · rw [hh]; exact h2.moved ha
theorem xZ_go {A : Nat → Prop} {s U : State} (hW : s.WarmedH U.vm) (hq : ∀ a : Nat, a < s.heap.size → ¬ A a → U.heap[a]? = s.heap[a]?) (h : xZ A s) : xZ A U := by
  obtain ⟨h1, h2, ⟨a, h3⟩, ⟨b, h4⟩, h5, h6⟩ := h
  exact ⟨(h1.moved hW.alike).kept hq, (h2.moved hW.alike).kept hq, ⟨a, h3.warm hW⟩, ⟨b, h4.warm hW⟩, h5.moved hW.alike, xNo_moved hW.alike h6⟩
theorem xZ_in {A B : Nat → Prop} {U : State} (hAB : ∀ q, B q → A q) (h : xZ A U) : xZ B U := by
  obtain ⟨h1, h2, h3, h4, h5⟩ := h
  exact ⟨h1.narrow hAB, h2.narrow hAB, h3, h4, h5⟩
def xroomX (d : Nat) : Room := { frames := d, cells := 1, slots := 6, locals := 48 * d }
def xPx (G : XG) (av : List Value) (m : XM) (sz : Nat) : Array Value → State → Prop := fun v U => v = av.toArray ∧ U.heap.size = sz ∧ va_P G.1.1 vwCl (xw G m) U.heap ∧ xK G U ∧ xSt (xAn G sz) G U ∧ xZ (xAn G sz) U
def xXC (G : XG) (z : String × XM) (sz : Nat) : String → State → State → Prop := fun E st t => E = z.1 ∧ va_P G.1.1 vwCl (xw G z.2) t.heap ∧ xK G t ∧ xT G z.2 ∧ va_F (xAn G sz) st t
/-- the contract of a method that throws: from memory m it throws z.1, memory z.2 is behind it -/
def xXMet (G : XG) (l : Launch) (M : XD) (d : Nat) (av : List Value) (m : XM) (z : String × XM) : Prop := ∀ sz, vx_Met l M.1 (xws M) (xroomX d) (xPx G av m sz) (fun _ _ _ _ => False) (xXC G z sz) 1 6 (xAn G sz)
abbrev xEx (G : XG) (d sz : Nat) : XE := (xroomX d, xAn G sz, 0, 0)
abbrev xQX (G : XG) (X : XX) (sz : Nat) : String × XM → State → Prop := fun z => vx_MQ X.2.2.2.2.2.1 (fun _ _ _ _ => False) (xXC G z sz) X.2.2.2.2.1 X.2.2.1 1 6 (xAn G sz)
def xFX (G : XG) (X : XX) (sz : Nat) : Prop := X.2.2.1.heap.size = sz ∧ xZ (xAn G sz) X.2.2.1 ∧ ∀ x ∈ X.2.2.2.2.2.2.2.exceptionTable.toList, False
theorem xXMet_of {G : XG} {l : Launch} {M : XD} {d : Nat} {av : List Value} {m : XM} {t : Option (String × XM)} (hy : plainName M.1.cls = true) (hn : xN G) (hT : xT G m) (hav : (lg_sl av).length ≤ M.2.2.1)
    (h : ∀ (X : XX) (sz : Nat), xFX G X sz → xF (xEx G d sz) G X M → xJ (xEx G d sz) (xQX G X sz) G l X M 0 (lv_args 0 av) [] m t) : ∀ z, t = some z → xXMet G l M d av m z := by
  intro z hz sz
  refine vx_ofW (cc := M.2.1) (maxL := M.2.2.1) (ret := M.2.2.2.1) hy rfl ?_
  intro p e s mid args below meth c s₁ B hml htab hv
  obtain ⟨rfl, hsz, hP, hK, hSt, hZ⟩ := hv
  have hl := lv_entry av (n := M.2.2.1) hav
  rw [lg_entry_eq]
  exact h (p, e, s, mid, av.toArray, below, meth, c) sz ⟨hsz, hZ, htab⟩ ⟨B.exec, B.bytes, B.returns, hml, findClass_of_methodNamed B.named, fun w hw => atoms_spec (ws := xws M) B.pre w (List.mem_cons_of_mem _ hw), B.notSynchronized, hK, hn, hSt, fun i hi => Or.inl ⟨i, hi, rfl⟩, Nat.zero_le _, Nat.zero_le _⟩ z hz s.heap [] _ hP va_S.rf hT hl
/-- thrown first, or else on -/
def xcx {β : Type} (o t : Option β) : Option β := match o with
  | some z => some z
  | none => t
theorem xfitX {G : XG} {d d' sz : Nat} (h : d' + 1 ≤ d) : xfits (xEx G d sz) d' := ⟨h, by show 48 * (d' + 1) ≤ 48 * d; omega⟩
theorem xno_on : ∀ w ∈ xno, w.onTables = true := by decide +kernel
section XTH
variable {G : XG} {l : Launch} {X : XX} {M M' : XD} {pc d sz : Nat} {lv : List (Nat × Value)} {st stk : List Value} {m : XM} {t : Option (String × XM)} {d' n ci idx b : Nat} {As : List Value}
/-- the callee throws: so does the caller -/
theorem xj_callX (F : xF (xEx G d sz) G X M) (FX : xFX G X sz) {o : Option (String × XM)} (hb : isa G b ci) (hl : xmv M.1.cls idx M' n ci) (hn : As.length = n) (hs : stk = As.reverse ++ .ref (xad G b) :: st) (hW : (st.map fun v => v.category).sum ≤ 8) (hd' : d' + 1 ≤ d) (hd : decode M.2.1 pc = .ok (.invokevirtual idx, 3)) (hM : xT G m → ∀ z, o = some z → xXMet G l M' d' (.ref (xad G b) :: As) m z) (k : xJ (xEx G d sz) (xQX G X sz) G l X M pc lv stk m t) : xJ (xEx G d sz) (xQX G X sz) G l X M pc lv stk m (xcx o t) := by
  intro z hz
  cases ho : o with
  | none => rw [ho] at hz; exact k z hz
  | some z0 =>
    rw [ho] at hz
    have hz0 : z0 = z := Option.some.inj hz
    subst hz0
    intro H locs ls hP hS hT hl0
    obtain ⟨h1, h2, h3, h4, T, N, h5⟩ := hl
    obtain ⟨hsz, hZ, htab⟩ := FX
    have hK := F.2.2.2.2.2.2.2.1
    have hq := xget m hb.1
    rw [xc_obj hb.2 h4] at hq
    have hMet := hM hT z0 ho H.size
    obtain ⟨q1, q2, q3, q4, q5⟩ := h1
    have cb : CallB (xroomX d) X.2.2.1 X.2.2.2.2.1 M.1.cls idx M'.1 M'.2.1 M'.2.2.1 M'.2.2.2.1 (xws M') (xroomX d') 1 6 n := by
      refine callB_of n F.2.2.2.2.2.1 (xgood q2) rfl rfl rfl (F.2.2.2.2.2.1 _ q3) (F.2.2.2.2.2.1 _ q1) q4 ⟨hd', ?_⟩
      show 8 + (M'.2.2.1 + 11) + 48 * d' ≤ 48 * d
      omega
    have hAn : ∀ q, xAn G H.size q → xAn G sz q := fun q hq => hq.elim Or.inl (fun h => Or.inr (Nat.le_trans (by rw [← hsz]; exact hS.1) h))
    have hrun := vx_runV (g := F0 X.2.2.2.1 pc ls stk) (C := M'.1.cls) (b := xad G b) (As := As) (rest := st) (l := l) (below := X.2.2.2.2.2.1) (meth := X.2.2.2.2.2.2.1) (e := X.2.1) (locs := locs) (cells := 0) (slots := 0) (H := H) ⟨F.1, F.2.1, F.2.2.2.1, F.2.2.2.2.1, F.2.2.2.2.2.1⟩ hMet ⟨cb, F.2.2.2.2.2.1 _ h2, F.2.2.2.2.2.1 _ h3⟩ ⟨fun a U g mk q => ⟨q.1, q.2.1, q.2.2.1, va_K.moved (u := U) (U := U.calling g mk a) (Vm.Alike.refl U.vm) q.2.2.2.1, xSt_same (u := U) (U := U.calling g mk a) rfl rfl q.2.2.2.2.1, xZ_same (u := U) (U := U.calling g mk a) rfl rfl q.2.2.2.2.2⟩, va_recv hK hP (ci := ci) (q0 := b) h5 hq, fun U hU hWU => ⟨rfl, by rw [hU], by rw [hU]; exact hP, va_K.moved hWU.alike hK, xSt_in hAn (xSt_go hWU (fun a h1 h2 => by rw [hU]; exact hS.2.1 a h1 h2) (xFs F)), xZ_in hAn (xZ_go hWU (fun a h1 h2 => by rw [hU]; exact hS.2.1 a h1 h2) hZ)⟩⟩ rfl hn hl0.1 hs (by exact Nat.le_trans (Nat.le_of_eq (Nat.zero_add _)) hW) hd ⟨Nat.le_refl _, Nat.le_refl _⟩
    intro T0 hT0 Xs
    rcases hrun T0 hT0 Xs with ⟨v, st₀, t', T', L, h0, X', hL, e1, e2, hq9, stp⟩ | ⟨q, st₀, t', T', L, E9, ce, h0, X', hL, e1, e2, ⟨hE, hP1, hK1, hT1, hz1, hkk⟩, hce, hcv, hcl, stp⟩
    · exact hq9.elim
    · rw [h0] at hz1 hkk
      have hkx : vx_W X.1 l X.2.1 (xroomX d) X.2.2.1 X.2.2.2.1 X.2.2.2.2.1 X.2.2.2.2.2.1 X.2.2.2.2.2.2.1 X.2.2.2.2.2.2.2 T'.heap (locs ++ L) 1 6 (vx_MQ X.2.2.2.2.2.1 (fun _ _ _ _ => False) (xXC G z0 sz) X.2.2.2.2.1 X.2.2.1 1 6 (xAn G sz)) (F0 X.2.2.2.1 pc ls st) q := by
        refine vx_out (fun x hx => (htab x hx).elim) F.2.2.2.2.2.2.1 (by rw [e1]; exact hce) hcv hcl (fun t2 ht2 hal => ⟨hE, by rw [ht2, e1]; exact hP1, va_K.moved hal hK, hT1, ?_, ?_⟩) (fun z hz => ?_) (Nat.le_refl _) (Nat.le_refl _)
        · rw [ht2, e1]; exact Nat.le_trans hS.1 hz1
        · intro x hx1 hx2
          rw [ht2, e1, hkk x (Nat.lt_of_lt_of_le hx1 hS.1) (fun h => hx2 (hAn x h))]
          exact hS.2.1 x hx1 hx2
        · rcases List.mem_append.mp hz with h | h
          · exact hS.2.2 z h
          · exact hAn _ (hL z h)
      obtain ⟨t2, a1, b1⟩ := hkx T' rfl X'
      exact ⟨t2, stp.trans a1, b1⟩
/-- a throw: new, dup, its message, its constructor, athrow -/
theorem xj_throw (F : xF (xEx G d sz) G X M) (FX : xFX G X sz) (hst : l.stackTraces = false) {E text : String} {ik is ic : Nat} {names : List String} (hd6 : 6 ≤ d) (hcls : Bundle.fit E = true) (hnm : ∀ n ∈ names, Bundle.fit n = true) (hnl : names.length = 2) (hk : Cond.classLink M.1.cls ik E ∈ xB) (hini : Cond.initialized E ∈ xB) (hat : ∀ w ∈ (vx_atS M.1.cls ic E names).filter goodWord, w ∈ xB) (hatN : ∀ w ∈ (vx_atS M.1.cls ic E names).filter (fun w => !goodWord w), w ∈ xno) (hgood : ∀ w ∈ Cond.classLink M.1.cls ik E :: Cond.initialized E :: vx_atS M.1.cls ic E names, vx_ot w = true) (hstr : xZ (xAn G sz) X.2.2.1 → ∃ a, vk_R M.1.cls is text a X.2.2.1)
    (d0 : decode M.2.1 pc = .ok (.new ik, 3)) (d3 : decode M.2.1 (pc + 3) = .ok (.dup, 1)) (d4 : decode M.2.1 (pc + 4) = .ok (.ldc_w is, 3)) (d7 : decode M.2.1 (pc + 7) = .ok (.invokespecial ic, 3)) (d10 : decode M.2.1 (pc + 10) = .ok (.athrow, 1)) : xJ (xEx G d sz) (xQX G X sz) G l X M pc lv [] m (some (E, m)) := by
  intro z hz H locs ls hP hS hT hl0
  cases hz
  obtain ⟨hsz, hZ, htab⟩ := FX
  obtain ⟨sa, hsa⟩ := hstr hZ
  have hK := F.2.2.2.2.2.2.2.1
  refine vx_throwSW F.1 F.2.1 hst F.2.2.2.2.1 hcls hnm (F.2.2.2.2.2.1 _ hk) (F.2.2.2.2.2.1 _ hini) hsa (vx_hat (fun w hw => F.2.2.2.2.2.1 _ (hat w hw)) hatN (fun w hw => va_any (xno_on w hw) (hZ.2.2.2.2.2 w hw))) hgood hZ.1 hZ.2.1 hS (by rw [F.2.2.2.1]; exact hl0.1) d0 d3 d4 d7 d10 (fun x hx => (htab x hx).elim) ?_ ?_ (Nat.le_refl _) (Nat.le_refl _) F.2.2.2.2.2.2.1 (fun t2 hal h1 h2 => ⟨rfl, ?_, va_K.moved hal hK, hT, Nat.le_trans hS.1 h1, fun x hx1 hx2 => (h2 x (Nat.lt_of_lt_of_le hx1 hS.1)).trans (hS.2.1 x hx1 hx2)⟩) hS.2.2 (Nat.le_refl _) (Nat.le_refl _)
  · rw [hnl]
    show 5 < d
    omega
  · rw [hnl]
    show 0 + (13 * 3 + 43) ≤ 48 * d
    omega
  · exact hP.kept (fun k q hk => h2 q.1 ((hP k q hk).lt))
end XTH
theorem xat_A : ∀ w ∈ (vx_atS RX8 272 xIA ["java/lang/RuntimeException", "java/lang/Exception"]).filter goodWord, w ∈ xB := by
  have h : ∀ w ∈ (vx_atS RX8 272 xIA ["java/lang/RuntimeException", "java/lang/Exception"]).filter goodWord, w ∈ lw_tbl := by decide +kernel
  exact fun w hw => List.mem_filter.mpr ⟨h w hw, (List.mem_filter.mp hw).2⟩
theorem xan_A : ∀ w ∈ (vx_atS RX8 272 xIA ["java/lang/RuntimeException", "java/lang/Exception"]).filter (fun w => !goodWord w), w ∈ xno := by decide +kernel
theorem xgood_A : ∀ w ∈ Cond.classLink RX8 268 xIA :: Cond.initialized xIA :: vx_atS RX8 272 xIA ["java/lang/RuntimeException", "java/lang/Exception"], vx_ot w = true := by decide +kernel
