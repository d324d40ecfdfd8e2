/-! ===== an exception whose own constructor links the one above it at another place ===== -/
/-- the words of the constructors above it -/
def xn_rest : List String → List Cond
  | [] => []
  | Y :: r => Bundle.chainSAtoms Y r
/-- the words of its own constructor (bytes rx, the one above it linked at ix), then those above it -/
def xn_ch (X : String) (ix : Nat) (rx : ByteArray) (names : List String) : List Cond := Bundle.passSAtoms X (names.headD Bundle.tN) ix rx ++ xn_rest names
/-- what the class that throws, and the exception's class, must have -/
def xn_w (own : String) (ic : Nat) (X : String) : List Cond := [.methodLink own ic (Bundle.initS X), .instantiable X 6, .castable X X, .selects X Bundle.tFill0 Bundle.tFill0, .selects X Bundle.tFill Bundle.tFill, .lays X Bundle.tN "cause" "Ljava/lang/Throwable;", .lays X Bundle.tN "stackTrace" Bundle.steD, .lays X Bundle.tN "suppressedExceptions" Bundle.listD, .lays X Bundle.tN "detailMessage" "Ljava/lang/String;", .isRef (.static Bundle.tN "UNASSIGNED_STACK" Bundle.steD), .isRef (.static Bundle.tN "SUPPRESSED_SENTINEL" Bundle.listD), .fieldLink Bundle.tN 198 Bundle.tN "backtrace" "Ljava/lang/Object;", .lays Bundle.tN Bundle.tN "backtrace" "Ljava/lang/Object;", .lays X Bundle.tN "backtrace" "Ljava/lang/Object;"]
def xn_own (own : String) (ic : Nat) (X : String) (ix : Nat) (rx : ByteArray) (names : List String) : List Cond := Bundle.throwableAtoms ++ Bundle.throwableSAtoms ++ xn_ch X ix rx names ++ xn_w own ic X
/-- the row of constructors, its own first, up to Throwable's -/
theorem xn_chain {args : Array Value} {s : State} {pl : Platform} (hpl : pl.magicAccessors = ({} : Platform).magicAccessors) {top : MethodId} (htop : s.methodNamed? (Bundle.initS Bundle.tN) = some top) {X : String} {ix : Nat} {rx : ByteArray} {names : List String}
    (x0 : decode rx 0 = .ok (.aload_n 0, 1)) (x1 : decode rx 1 = .ok (.aload_n 1, 1)) (x2 : decode rx 2 = .ok (.invokespecial ix, 3)) (x5 : decode rx 5 = .ok (.return_, 1)) (hX : Bundle.fit X = true) (hn : ∀ n ∈ names, Bundle.fit n = true) (h : ∀ w ∈ xn_ch X ix rx names, w.before args s = true) :
    ∃ (P1 : PassC) (Ps : List PassC), Ps.length = names.length ∧ P1.LinksS pl s ∧ (∀ P, P ∈ Ps → P.LinksS pl s) ∧ s.methodNamed? (Bundle.initS X) = some P1.m ∧ P1.sup = firstOf top (Ps.map (·.toPassT)) ∧ PassesOn top (Ps.map (·.toPassT)) := by
  have hl : ∀ w ∈ Bundle.passSAtoms X (names.headD Bundle.tN) ix rx, w.before args s = true := fun w hw => h w (List.mem_append_left _ hw)
  have hr : ∀ w ∈ xn_rest names, w.before args s = true := fun w hw => h w (List.mem_append_right _ hw)
  cases names with
  | nil =>
    obtain ⟨P, L, hm, hs⟩ := PassC.ofS_atoms (args := args) (s := s) hpl (Bundle.fit_spec hX).1 (show Bundle.tN ≠ "java/lang/invoke/MethodHandle" ∧ Bundle.tN ≠ "java/lang/invoke/VarHandle" by decide) x0 x1 x2 x5 hl
    exact ⟨P, [], rfl, L, (fun _ hP => (by cases hP)), hm, Option.some.inj (hs.symm.trans htop), trivial⟩
  | cons Y r =>
    have hY := hn Y List.mem_cons_self
    obtain ⟨P, L, hm, hs⟩ := PassC.ofS_atoms (args := args) (s := s) hpl (Bundle.fit_spec hX).1 (Bundle.fit_spec hY).2 x0 x1 x2 x5 hl
    obtain ⟨P2, Ps, hlen, L2, hL, hm2, hsup, hpass⟩ := Bundle.chainS (args := args) hpl htop r Y hY (fun n h' => hn n (List.mem_cons_of_mem _ h')) hr
    exact ⟨P, P2 :: Ps, congrArg (· + 1) hlen, L, fun Q hQ => (List.mem_cons.mp hQ).elim (fun e => e ▸ L2) (hL Q), hm, Option.some.inj (hs.symm.trans hm2), hsup, hpass⟩
set_option maxHeartbeats 1000000 in
/-- the maker of an exception whose constructor names the one above it at ix (kept no traces): from invokespecial to 'threw' -/
theorem xctorN {p : Program} {l : Launch} {e : Env} {R : Room} {s : State} {m₀ : MethodId} {args : Array Value} {below : List Frame} {meth : Method} {c : Code} {W : State} {locs : List Loc} {cells slots : Nat} (X : Stand p l e R s m₀ args below meth c W locs cells slots) (hexec : p.tables.exec = Jvm.exec) (htr : e.platform.stackTraces = false) {own cls : String} {names : List String} {ic ix : Nat} {rx : ByteArray}
    (x0 : decode rx 0 = .ok (.aload_n 0, 1)) (x1 : decode rx 1 = .ok (.aload_n 1, 1)) (x2 : decode rx 2 = .ok (.invokespecial ix, 3)) (x5 : decode rx 5 = .ok (.return_, 1)) (hown : s.vm.findClass own = some m₀.cls) (hcls : Bundle.fit cls = true) (hnames : ∀ n ∈ names, Bundle.fit n = true) (h : ∀ a ∈ xn_own own ic cls ix rx names, a.before args s = true)
    {a : Addr} {cX : ClassId} {kX : Class} (hlocs : locs = []) (hfX : s.vm.findClass cls = some cX) (hkX : s.vm.classes[cX]? = some kX) (hcell : W.heap[a]? = some (freshCell cX kX)) (hnew : s.heap.size ≤ a) {msg : Value} (hmsg : msg.isRef = true) {g : JFrame} (hg : g.method = m₀) (hsize : g.locals.size = c.maxLocals) (hlocked : g.locked = none) (hentered : g.entered = []) {rest : List Value} (hstack : g.stack = msg :: .ref a :: .ref a :: rest)
    (d6 : decode c.code g.pc = .ok (.invokespecial ic, 3)) (d9 : decode c.code (g.pc + 3) = .ok (.athrow, 1)) (hout : ∀ x ∈ c.exceptionTable.toList, covers x (g.pc + 3) = false) (hRf : names.length + 3 < R.frames) (hRl : 2 * g.monitorRoom + ((Value.ref a :: rest).map fun v => v.category).sum + (13 * (names.length + 1) + 42) ≤ R.locals) (hlocks : meth.locks = false) :
    ∃ U : State, Steps p.tables e below (W.setTop g) U ∧ U.status = .running ∧ Ended U below (.threw a) ∧ s.WarmedH U.vm ∧ s.sameButNew ({ U with vm := s.vm } : State) locs cells slots ∧ ∃ ce, U.heap[a]? = some ce ∧ s.vm.findClass cls = some ce.cls ∧ ce.vm = .none := by
  have hpl : e.platform.magicAccessors = ({} : Platform).magicAccessors := by rw [X.admits.platform]
  have at' : ∀ x, x ∈ xn_own own ic cls ix rx names → x.holds args s none s [] = true := fun x hx => h x hx
  have pick : ∀ x, x ∈ xn_w own ic cls → x.holds args s none s [] = true := fun x hx => at' x (List.mem_append_right _ hx)
  have first : ∀ x, x ∈ xn_ch cls ix rx names → x.before args s = true := fun x hx => h x (List.mem_append_left _ (List.mem_append_right _ hx))
  obtain ⟨T, Z0, L, -, Y⟩ := ThrowableC.of_atoms (args := args) (show e.platform.frameOwnsMonitors = true by rw [X.admits.platform]) (show e.platform.finalization = false by rw [X.admits.platform]) hpl (fun x hx => h x (List.mem_append_left _ (List.mem_append_left _ (List.mem_append_left _ hx))))
  obtain ⟨Z, Mt, LZ, LM, hnZ⟩ := Init0T.ofS_atoms (args := args) hpl L Y (fun x hx => h x (List.mem_append_left _ (List.mem_append_left _ (List.mem_append_right _ hx))))
  obtain ⟨P1, Ps, hlen, L1, hL, hP1m, hlink1, hlink⟩ := xn_chain (args := args) hpl hnZ x0 x1 x2 x5 hcls hnames first
  have hfound : s.vm.findClass cls = some P1.m.cls := findClass_of_methodNamed hP1m
  cases Option.some.inj (hfX.symm.trans hfound)
  obtain ⟨c1, kX', hc1, hk, hord, -, -, hn6⟩ := Cond.instantiable_spec (pick (.instantiable cls 6) (List.mem_of_getElem? (i := 1) rfl))
  cases Option.some.inj (hc1.symm.trans hfound)
  cases Option.some.inj (hkX.symm.trans hk)
  have sel : ∀ {y : MethodName} {r : MethodId}, s.methodNamed? y = some r → (y.cls ≠ "java/lang/invoke/MethodHandle" ∧ y.cls ≠ "java/lang/invoke/VarHandle") → (Cond.selects cls y y).holds args s none s [] = true → selectMethod e.platform s.vm P1.m.cls r = .method r := by
    intro y r hy hne hs
    obtain ⟨c2, r2, m2, q1, q2, q3, q4, -⟩ := Cond.selects_spec hs
    cases Option.some.inj (q1.symm.trans hfound)
    cases Option.some.inj (q2.symm.trans (State.methodFound?_of_named hy hne))
    cases Option.some.inj (q3.symm.trans hy)
    rw [Launch.admits_selectMethod X.admits]
    exact q4
  have hsel0 := sel Y.fill0 (by decide) (pick (.selects cls Bundle.tFill0 Bundle.tFill0) (List.mem_of_getElem? (i := 3) rfl))
  have hselF := sel Y.fill (by decide) (pick (.selects cls Bundle.tFill Bundle.tFill) (List.mem_of_getElem? (i := 4) rfl))
  obtain ⟨cellS0, hcS0, hiss⟩ := Y.statics
  obtain ⟨u0, hu0⟩ := Cond.staticRefV Y.unassigned L.unassignedStatic L.statics hcS0 hiss (pick _ (List.mem_of_getElem? (i := 9) rfl))
  obtain ⟨sen, hsen⟩ := Cond.staticRefV Y.sentinel L.sentinelStatic L.statics hcS0 hiss (pick _ (List.mem_of_getElem? (i := 10) rfl))
  obtain ⟨ci198, i198, fB, hk198, hg198, ha198, hsB, -, hnB, htB, hffB⟩ := Cond.ownField (t := .object "java/lang/Object") Y.found L.cls (by decide +kernel) (pick _ (List.mem_of_getElem? (i := 11) rfl)) (pick _ (List.mem_of_getElem? (i := 12) rfl)) e.platform hpl
  obtain ⟨cellS, hcS', heS, -, hkeep⟩ := X.same.2.2.2.2.2 T.aS cellS0 hcS0
  have hno : ∀ i, (⟨T.aS, i⟩ : Loc) ∉ locs := fun i hm => by rw [hlocs] at hm; cases hm
  have hknownS : cellS.vm ≠ .unknown := by
    rw [heS]
    intro hu
    rw [show cellS0.vm = .unknown from hu] at hiss
    cases hiss
  have hneS : T.aS ≠ a := Nat.ne_of_lt (Nat.lt_of_lt_of_le (Array.getElem?_eq_some_iff.mp hcS0).1 hnew)
  obtain ⟨iM, hffM⟩ := Y.msg
  obtain ⟨tyC, dC, hdC, hdnC⟩ := Cond.laysAt hfound hk Y.cause (pick _ (List.mem_of_getElem? (i := 5) rfl))
  obtain ⟨tyS, dS, hdS, hdnS⟩ := Cond.laysAt hfound hk Y.stack (pick _ (List.mem_of_getElem? (i := 6) rfl))
  obtain ⟨tyP, dP, hdP, hdnP⟩ := Cond.laysAt hfound hk Y.supp (pick _ (List.mem_of_getElem? (i := 7) rfl))
  obtain ⟨tyM, dM, hdM, hdnM⟩ := Cond.laysAt hfound hk hffM (pick _ (List.mem_of_getElem? (i := 8) rfl))
  obtain ⟨tyB, dB, hdB, hdnB⟩ := Cond.laysAt hfound hk hffB (pick _ (List.mem_of_getElem? (i := 13) rfl))
  have bC := Cond.laysApart hdB hdC hdnB hdnC (by rw [hnB, Y.causeName]; decide)
  have bS := Cond.laysApart hdB hdS hdnB hdnS (by rw [hnB, Y.stackName]; decide)
  have bP := Cond.laysApart hdB hdP hdnB hdnP (by rw [hnB, Y.suppName]; decide)
  have hskip : SkipFacts T e.platform s (fun u => u) u0 ((preparedCellV T.toThrowableT (freshCell P1.m.cls kX) a u0 sen).withEntry W.cur) :=
    ⟨{ ci198 := ci198, i198 := i198, fBack := fB }, ⟨hk198, hg198, ha198, hsB⟩, by
      have := fresh_default (c := P1.m.cls) tyB
      rw [htB] at this
      simpa [preparedCellV, Cell.setSlot, Cell.withEntry, Array.getElem?_setIfInBounds, bC, bS, bP, bC.symm, bS.symm, bP.symm, defaultValue] using this, fun _ _ => rfl⟩
  obtain ⟨tm, methC, cdC, kC, vm₁, hnC, -, -, -, -, -, -, -, hW₁, st1⟩ := Steps.initColdS (tb := p.tables) (e := e) (below := below) (s := s) (U := W) X.here hexec X.warmed hpl hown (t := Bundle.initS cls) rfl rfl (Bundle.fit_spec hcls).2 (pick _ (List.mem_of_getElem? (i := 0) rfl)) (first (.instanceMethod (Bundle.initS cls)) (by simp [xn_ch, Bundle.passSAtoms])) (bytes := rx) (maxL := 2) (first (.code (Bundle.initS cls) rx 2 none) (by simp [xn_ch, Bundle.passSAtoms])) (f := g) hg (a := a) (msg := msg) (rest := .ref a :: rest) hstack d6
  cases Option.some.inj (hnC.symm.trans hP1m)
  have X₁ := X.noted hW₁
  obtain ⟨vm₂, X₂, st2⟩ := X₁.ctorMessageOffV hexec (g := { g with stack := .ref a :: rest }) hg hsize T L Z LZ Mt LM (P1 :: Ps) (fun P hP => (List.mem_cons.mp hP).elim (fun e => e ▸ L1) (fun hP => hL P hP)) ⟨hlink1, hlink⟩ (u0 := u0) (sen := sen) (self := a) hmsg (cell := freshCell P1.m.cls kX) (cellS := cellS)
    hcell (fun _ => by simp) (by simp) rfl rfl hsel0 hselF hcS' hneS hknownS (by rw [hkeep _ (hno _)]; exact hu0) (by rw [hkeep _ (hno _)]; exact hsen)
    (Takes.of_laid hk hord tyC (by rw [Y.causeType]; rfl)) (Takes.of_laid hk hord tyS (by rw [Y.stackType]; exact fits_refV_array _ u0)) (Takes.of_laid hk hord tyP (by rw [Y.suppType]; exact fits_refV_object _ sen)) (Takes.of_laid hk hord tyM (by rw [Y.msgType]; exact fits_refV_object _ ⟨msg, hmsg⟩)) Y.objLocals hskip htr [] d6
    (by simp only [List.length_cons, hlen]; omega) (by simp only [List.length_cons, hlen]; exact hRl)
  obtain ⟨hwalk, hrun, hended, hWU, hsame⟩ := X₂.athrowLeaves hexec (g := { g with stack := .ref a :: rest, pc := g.pc + 3 }) hg hlocked hentered hout (a := a) (rest := rest) rfl d9
  have hlt : a < ((W.setVm vm₁).setVm vm₂).heap.size := (Array.getElem?_eq_some_iff.mp hcell).1
  have hU := heapAt_setCell_self (s := (W.setVm vm₁).setVm vm₂) (plainBareV T.toThrowableT (freshCell P1.m.cls kX) a u0 sen msg) hlt
  refine ⟨_, st1 _ (fun acts => ?_), hrun, hended, hWU, hsame.weaken (fun y hy hlt' => ?_) (Nat.le_refl _) (Nat.le_refl _), _, hU, hfound, rfl⟩
  · rw [doInvoke_state]
    exact st2 _ hwalk
  · rcases List.mem_append.mp hy with h1 | h1
    · exact h1
    · exfalso
      have hb : y.base = a := by
        simp only [List.mem_cons, List.not_mem_nil, or_false] at h1
        rcases h1 with rfl | rfl | rfl | rfl | rfl <;> rfl
      rw [hb] at hlt'
      exact Nat.not_lt.mpr hnew hlt'
def vx_atX (own : String) (ic : Nat) (X : String) (ix : Nat) (rx : ByteArray) (names : List String) : List Cond := (xn_own own ic X ix rx names).filter vx_no
section XTN
variable {G : XG} {l : Launch} {X : XX} {M : XD} {pc d sz : Nat} {lv : List (Nat × Value)} {m : XM}
set_option maxHeartbeats 1000000 in
/-- a throw of a class whose constructor links its super at another place (after the kit's vx_throwSW) -/
theorem xj_throwN (F : xF (xEx G d sz) G X M) (FX : xFX G X sz) (hst : l.stackTraces = false) {E text : String} {ik is ic ix : Nat} {rx : ByteArray} {names : List String} (x0 : decode rx 0 = .ok (.aload_n 0, 1)) (x1 : decode rx 1 = .ok (.aload_n 1, 1)) (x2 : decode rx 2 = .ok (.invokespecial ix, 3)) (x5 : decode rx 5 = .ok (.return_, 1)) (hd6 : 6 ≤ d) (hcls : Bundle.fit E = true) (hnm : ∀ n ∈ names, Bundle.fit n = true) (hnl : names.length = 2) (hk : Cond.classLink M.1.cls ik E ∈ xB) (hini : Cond.initialized E ∈ xB) (hat : ∀ w ∈ (vx_atX M.1.cls ic E ix rx names).filter goodWord, w ∈ xB) (hatN : ∀ w ∈ (vx_atX M.1.cls ic E ix rx names).filter (fun w => !goodWord w), w ∈ xno) (hgood : ∀ w ∈ Cond.classLink M.1.cls ik E :: Cond.initialized E :: vx_atX M.1.cls ic E ix rx names, vx_ot w = true) (hstr : xZ (xAn G sz) X.2.2.1 → ∃ a, vk_R M.1.cls is text a X.2.2.1)
    (d0 : decode M.2.1 pc = .ok (.new ik, 3)) (d3 : decode M.2.1 (pc + 3) = .ok (.dup, 1)) (d4 : decode M.2.1 (pc + 4) = .ok (.ldc_w is, 3)) (d7 : decode M.2.1 (pc + 7) = .ok (.invokespecial ic, 3)) (d10 : decode M.2.1 (pc + 10) = .ok (.athrow, 1)) : xJ (xEx G d sz) (xQX G X sz) G l X M pc lv [] m (some (E, m)) := by
  intro z hz H locs ls hP hS hTT hl0
  cases hz
  obtain ⟨hsz, hZ, htab⟩ := FX
  obtain ⟨sa, hsa⟩ := hstr hZ
  have hK := F.2.2.2.2.2.2.2.1
  have hb := F.2.1
  have hatA := vx_hat (fun w hw => F.2.2.2.2.2.1 _ (hat w hw)) hatN (fun w hw => va_any (xno_on w hw) (hZ.2.2.2.2.2 w hw))
  intro T hT Xs
  have htr : X.2.1.platform.stackTraces = false := (show X.2.1.platform.stackTraces = l.stackTraces by rw [Xs.admits.platform]).trans hst
  have Y := vx_rebase Xs (R' := { frames := d, locals := 48 * d, cells := 1, slots := 6 }) (Nat.le_refl _) (Nat.le_refl _) (Nat.le_refl _) (Nat.le_refl _)
  obtain ⟨s', hA⟩ : ∃ z, z = (T.setVm X.2.2.1.vm).setFrames (.invoking X.2.2.2.1 X.2.2.2.2.1 :: X.2.2.2.2.2.1) := ⟨_, rfl⟩
  rw [← hA] at Y
  have hvm : s'.vm = X.2.2.1.vm := by rw [hA]; rfl
  have hhp : s'.heap = H := by rw [hA]; exact hT
  have hW0 : X.2.2.1.WarmedH s'.vm := by rw [hvm]; exact State.WarmedH.refl _
  have hat' : ∀ w ∈ vx_atX M.1.cls ic E ix rx names, w.before X.2.2.2.2.1 s' = true := fun w hw => vx_ot_at hW0 hvm.symm (hgood w (List.mem_cons_of_mem _ (List.mem_cons_of_mem _ hw))) (hatA w hw)
  have hk' : (Cond.classLink M.1.cls ik E).before X.2.2.2.2.1 s' = true := vx_ot_at hW0 hvm.symm (hgood _ List.mem_cons_self) (F.2.2.2.2.2.1 _ hk)
  have hini' : (Cond.initialized E).before X.2.2.2.2.1 s' = true := vx_ot_at hW0 hvm.symm (hgood _ (List.mem_cons_of_mem _ List.mem_cons_self)) (F.2.2.2.2.2.1 _ hini)
  have hU' : vx_Zq Bundle.tN "UNASSIGNED_STACK" Bundle.steD (xAn G sz) s' s'.heap := by rw [hhp]; exact vx_Zq.moved hW0.alike (hZ.1.kept hS.2.1)
  have hN' : vx_Zq Bundle.tN "SUPPRESSED_SENTINEL" Bundle.listD (xAn G sz) s' s'.heap := by rw [hhp]; exact vx_Zq.moved hW0.alike (hZ.2.1.kept hS.2.1)
  have h : ∀ w ∈ xn_own M.1.cls ic E ix rx names, w.before X.2.2.2.2.1 s' = true := vx_own hat' (vx_isRefq hU'.1) (vx_isRefq hN'.1) hU'.2.word hN'.2.word
  have hown' : s'.vm.findClass M.1.cls = some X.2.2.2.1.cls := by rw [hvm]; exact F.2.2.2.2.1
  have hins : (Cond.instantiable E 6).before X.2.2.2.2.1 s' = true := h _ (List.mem_append_right _ (List.mem_of_getElem? (i := 1) rfl))
  obtain ⟨vm₁, cX, kX, hfX, hkX, -, -, X₁, st1⟩ := Y.newCold F.1 (own := M.1.cls) (C := E) (index := ik) (n := 6) hown' hk' hins hini'
    (g := F0 X.2.2.2.1 pc ls []) rfl (by rw [hb]; exact d0) (Nat.le_refl _) (Nat.le_refl _)
  generalize hT1 : (T.setVm vm₁).pushCell { cls := cX, slots := kX.instanceTypes.map defaultValue, vm := .none } = T1 at X₁ st1
  have hcat : (Value.ref T.heap.size).category = 1 := rfl
  have hcellA : T1.heap[T.heap.size]? = some (freshCell cX kX) := by rw [← hT1]; exact State.heap_pushCell_size _ _
  have d3' : decode X.2.2.2.2.2.2.2.code (pc + 3) = .ok (.dup, 1) := by rw [hb]; exact d3
  have d4' : decode X.2.2.2.2.2.2.2.code (pc + 4) = .ok (.ldc_w is, 3) := by rw [hb]; exact d4
  have hstr' : vk_R M.1.cls is text sa s' := vk_R.warm hW0 hsa
  obtain ⟨U, hsteps, hrun, hend, hW, hsame, ce, hce, hcl0, hcv⟩ := xctorN X₁ F.1 htr x0 x1 x2 x5 (own := M.1.cls) (cls := E) (names := names) (ic := ic) hown' hcls hnm h rfl hfX hkX hcellA (by rw [hhp, hT]; exact Nat.le_refl _) (msg := .ref sa) rfl
    (g := { method := X.2.2.2.1, pc := pc + 7, locals := ls, stack := .ref sa :: .ref T.heap.size :: .ref T.heap.size :: [], locked := none }) rfl (by rw [F.2.2.2.1]; exact hl0.1) rfl rfl (rest := []) rfl
    (by rw [hb]; exact d7) (by rw [hb]; exact d10) (fun x hx => (htab x hx).elim) (by rw [hnl]; show 5 < d; omega) (by rw [hnl]; simp only [List.map_cons, List.sum_cons, hcat]; show 2 * 0 + (1 + 0) + (13 * (2 + 1) + 42) ≤ 48 * d; omega) F.2.2.2.2.2.2.1
  obtain ⟨f1, f2⟩ := vx_frame hsame
  rw [hhp] at f1 f2
  have hWs : X.2.2.1.WarmedH U.vm := State.WarmedH.trans hW0 hW
  have hcl : X.2.2.1.vm.findClass E = some ce.cls := by
    rw [hvm] at hcl0
    exact hcl0
  have hall : X.2.2.1.sameButNew ({ U with vm := X.2.2.1.vm } : State) locs 1 6 := by
    subst hA
    obtain ⟨e1, e2⟩ := hsame
    rw [State.setFrames_setFrames] at e1
    have h2 : (T.setVm X.2.2.1.vm).sameButNew ({ U with vm := X.2.2.1.vm } : State) [] (0 + 1) (0 + 6) := ⟨e1, e2⟩
    have h3 := Xs.same.trans h2
    rw [List.append_nil] at h3
    exact h3.mono (Nat.le_refl _) (Nat.le_refl _)
  have f2' : ∀ q, q < H.size → U.heap[q]? = H[q]? := fun q hq => f2 q hq (fun z hz => nomatch hz)
  refine ⟨U, ?_, .threw T.heap.size, hrun, hend, Or.inr ⟨T.heap.size, rfl, E, ce, locs, ⟨rfl, hP.kept (fun k q hk => f2' q.1 ((hP k q hk).lt)), va_K.moved hWs.alike hK, hTT, Nat.le_trans hS.1 f1, fun x hx1 hx2 => (f2' x (Nat.lt_of_lt_of_le hx1 hS.1)).trans (hS.2.1 x hx1 hx2)⟩, hce, hcv, hcl, hWs, hall, hS.2.2⟩⟩
  refine st1 _ ?_
  show Steps X.1.tables X.2.1 X.2.2.2.2.2.1 (T1.setTop { method := X.2.2.2.1, pc := pc + 3, locals := ls, stack := .ref T.heap.size :: [], locked := none }) _
  have hxx := F.1
  jvm_step X₁.here [X₁.here.top, hxx, d3', Value.category]
  exact X₁.ldcStringW F.1 (own := M.1.cls) (text := text) (index := is) (a := sa) hown' hstr'.1 hstr'.2
    (g := { method := X.2.2.2.1, pc := pc + 4, locals := ls, stack := .ref T.heap.size :: .ref T.heap.size :: [], locked := none }) rfl d4' _ hsteps
end XTN
abbrev xrx : ByteArray := prog_27_method_4_code
theorem xrx0 : decode xrx 0 = .ok (.aload_n 0, 1) := by decide +kernel
theorem xrx1 : decode xrx 1 = .ok (.aload_n 1, 1) := by decide +kernel
theorem xrx2 : decode xrx 2 = .ok (.invokespecial 13, 3) := by decide +kernel
theorem xrx5 : decode xrx 5 = .ok (.return_, 1) := by decide +kernel
theorem xat_N : ∀ w ∈ (vx_atX RX8 279 xNS 13 xrx ["java/lang/RuntimeException", "java/lang/Exception"]).filter goodWord, w ∈ xB := by
  have h : ∀ w ∈ (vx_atX RX8 279 xNS 13 xrx ["java/lang/RuntimeException", "java/lang/Exception"]).filter goodWord, w ∈ lw_tbl := by decide +kernel
  exact fun w hw => List.mem_filter.mpr ⟨h w hw, (List.mem_filter.mp hw).2⟩
theorem xan_N : ∀ w ∈ (vx_atX RX8 279 xNS 13 xrx ["java/lang/RuntimeException", "java/lang/Exception"]).filter (fun w => !goodWord w), w ∈ xno := by decide +kernel
theorem xgood_N : ∀ w ∈ Cond.classLink RX8 275 xNS :: Cond.initialized xNS :: vx_atX RX8 279 xNS 13 xrx ["java/lang/RuntimeException", "java/lang/Exception"], vx_ot w = true := by decide +kernel
