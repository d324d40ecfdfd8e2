/-! ===== new int[3][7], out of the machine's own words ===== -/
/-- the outer row's cell, i inner rows being there -/
def xm_o (c : ClassId) (h i : Nat) : Cell := arrV c 3 (fun j => va_rf (if j < i then some (h + 1 + j) else none))
/-- an inner row's cell -/
def xm_r (c : ClassId) : Cell := arrV c 7 (fun _ => .int 0)
/-- the state behind i inner rows -/
def xm_st (s : State) (cA cI : ClassId) : Nat → State
  | 0 => s.pushCell (xm_o cA s.heap.size 0)
  | i + 1 => ((xm_st s cA cI i).pushCell (xm_r cI)).setCell s.heap.size (xm_o cA s.heap.size (i + 1))
theorem xm_o_new (c : ClassId) (h : Nat) : ({ cls := c, slots := Array.replicate 3 .null, vm := .none } : Cell) = xm_o c h 0 := by
  rw [arrV_new]
  refine congrArg (arrV c 3) (funext fun j => ?_)
  rw [if_neg (Nat.not_lt_zero j)]
  rfl
theorem xm_o_put (c : ClassId) (h i : Nat) : (xm_o c h i).setSlot i (.ref (h + 1 + i)) = xm_o c h (i + 1) := by
  unfold xm_o
  rw [arrV_store]
  refine congrArg (arrV c 3) (funext fun j => ?_)
  by_cases e : j = i
  · subst e
    simp [updV, va_rf]
  · have e2 : (j < i + 1) = (j < i) := propext ⟨fun h => by omega, fun h => by omega⟩
    simp [updV, e, e2]
theorem xm_r_new (c : ClassId) : ({ cls := c, slots := Array.replicate 7 (.int 0), vm := .none } : Cell) = xm_r c := arrV_new c 7 (.int 0)
theorem xm_size (s : State) (cA cI : ClassId) : ∀ i, (xm_st s cA cI i).heap.size = s.heap.size + 1 + i
  | 0 => by simp [xm_st]
  | i + 1 => by
    have h := xm_size s cA cI i
    simp [xm_st, State.setCell, h]
    omega
theorem xm_vm (s : State) (cA cI : ClassId) : ∀ i, (xm_st s cA cI i).vm = s.vm
  | 0 => rfl
  | i + 1 => by
    have h := xm_vm s cA cI i
    simp [xm_st, h]
theorem xm_used (s : State) (cA cI : ClassId) : ∀ i, (xm_st s cA cI i).slotsUsed = s.slotsUsed + 3 + i * 7
  | 0 => by
    have e : (xm_o cA s.heap.size 0).slots.size = 3 := arrV_size _ _ _
    simp [xm_st, e]
  | i + 1 => by
    have h := xm_used s cA cI i
    have e : (xm_r cI).slots.size = 7 := arrV_size _ _ _
    simp [xm_st, h, e]
    omega
theorem xm_old (s : State) (cA cI : ClassId) {a : Nat} (ha : a < s.heap.size) : ∀ i, (xm_st s cA cI i).heap[a]? = s.heap[a]?
  | 0 => State.heap_pushCell_of_lt _ _ ha
  | i + 1 => by
    have hlt : a < (xm_st s cA cI i).heap.size := by rw [xm_size]; omega
    refine (State.heap_setCell_other (Nat.ne_of_gt ha)).trans ?_
    rw [State.heap_pushCell_of_lt (h := hlt)]
    exact xm_old s cA cI ha i
theorem xm_out (s : State) (cA cI : ClassId) : ∀ i, (xm_st s cA cI i).heap[s.heap.size]? = some (xm_o cA s.heap.size i)
  | 0 => State.heap_pushCell_size _ _
  | i + 1 => by
    have hlt : s.heap.size < (xm_st s cA cI i).heap.size := by rw [xm_size]; omega
    have h : ((xm_st s cA cI i).pushCell (xm_r cI)).heap[s.heap.size]? = some (xm_o cA s.heap.size i) := by
      rw [State.heap_pushCell_of_lt (h := hlt)]
      exact xm_out s cA cI i
    exact State.heap_setCell_self h
theorem xm_in (s : State) (cA cI : ClassId) : ∀ i j, j < i → (xm_st s cA cI i).heap[s.heap.size + 1 + j]? = some (xm_r cI)
  | i + 1, j, hj => by
    refine (State.heap_setCell_other (show s.heap.size ≠ s.heap.size + 1 + j by omega)).trans ?_
    by_cases e : j = i
    · subst e
      rw [← xm_size s cA cI j]
      exact State.heap_pushCell_size _ _
    · have hlt : s.heap.size + 1 + j < (xm_st s cA cI i).heap.size := by rw [xm_size]; omega
      rw [State.heap_pushCell_of_lt (h := hlt)]
      exact xm_in s cA cI i j (by omega)
theorem xm_top (s : State) (f : JFrame) (cA cI : ClassId) : ∀ i, xm_st (s.setTop f) cA cI i = (xm_st s cA cI i).setTop f
  | 0 => rfl
  | i + 1 => by
    show ((xm_st (s.setTop f) cA cI i).pushCell _).setCell _ _ = _
    rw [xm_top s f cA cI i]
    rfl
section XMW
variable {E : CtlPost} {e : Env} {d : Bool} {acts : List Action} {s : State}
theorem xm_row {cI cc : ClassId} {kI : Class} (hk : s.vm.classes[cI]? = some kI) (ht : kI.kind = .array cc .int) (hl : 7 ≤ e.platform.arrayLengthLimit) (hh : 28 ≤ e.platform.maxHeapBytes)
    (hc : s.heap.size < e.platform.maxCells) (hs : s.slotsUsed + 7 ≤ e.platform.maxSlots) {Q : Addr → Pre} (hq : ∀ d' acts', Q s.heap.size d' acts' (s.pushCell (xm_r cI))) :
    wp (multianewarray.make cI [7]) Q E e d acts s := by
  have h7 : (7 : Int32).toNatClampNeg = 7 := by decide
  have hn : ¬ (7 : Int32) < 0 := by decide
  rw [multianewarray.make]
  simp only [wp_bind', W.ite, hn, if_false, wp_pure', W.theClass, hk, ht, Option.some.injEq, exists_eq_left', h7]
  refine W.newArray_of hk ht (by omega) (by show ¬ 7 * 4 > _; omega) hc hs rfl (fun acts' => ?_)
  have k := hq d acts'
  rw [← xm_r_new] at k
  exact k
variable {cA cI cc : ClassId} {kA kI : Class}
theorem xm_turn (hkA : s.vm.classes[cA]? = some kA) (htA : kA.kind = .array cI (.array .int)) (hkI : s.vm.classes[cI]? = some kI) (htI : kI.kind = .array cc .int)
    (hl : 7 ≤ e.platform.arrayLengthLimit) (hh : 28 ≤ e.platform.maxHeapBytes) (hc : s.heap.size + 4 ≤ e.platform.maxCells) (hs : s.slotsUsed + 24 ≤ e.platform.maxSlots)
    {i : Nat} (hi : i < 3) {Q : ForInStep PUnit → Pre} (hq : ∀ d' acts', Q (.yield PUnit.unit) d' acts' (xm_st s cA cI (i + 1))) :
    wp (do let a ← multianewarray.make cI [7]; Jvm.writeLoc s.heap.size i (.ref a); Pure.pure (ForInStep.yield PUnit.unit)) Q E e d acts (xm_st s cA cI i) := by
  have e1 := xm_size s cA cI i
  have e2 := xm_used s cA cI i
  have e3 := xm_vm s cA cI i
  rw [wp_bind']
  refine xm_row (by rw [e3]; exact hkI) htI hl hh (by omega) (by omega) (fun d' acts' => ?_)
  have hlt : s.heap.size < (xm_st s cA cI i).heap.size := by omega
  simp only [wp_bind', W.writeLoc, wp_pure']
  refine ⟨xm_o cA s.heap.size i, by rw [State.heap_pushCell_of_lt (h := hlt)]; exact xm_out s cA cI i, by simp [xm_o, arrV], by rw [show (xm_o cA s.heap.size i).slots.size = 3 from arrV_size _ _ _]; exact hi, ?_, ?_⟩
  · simp [xm_o, arrV, State.fitsSlot, State.slotType?, e3, hkA, htA, fits]
  · rw [e1, xm_o_put]
    exact hq _ _
theorem xm_make (hkA : s.vm.classes[cA]? = some kA) (htA : kA.kind = .array cI (.array .int)) (hkI : s.vm.classes[cI]? = some kI) (htI : kI.kind = .array cc .int)
    (hl : 7 ≤ e.platform.arrayLengthLimit) (hh : 28 ≤ e.platform.maxHeapBytes) (hc : s.heap.size + 4 ≤ e.platform.maxCells) (hs : s.slotsUsed + 24 ≤ e.platform.maxSlots)
    {Q : Addr → Pre} (hq : ∀ d' acts', Q s.heap.size d' acts' (xm_st s cA cI 3)) :
    wp (multianewarray.make cA [3, 7]) Q E e d acts s := by
  have h3 : (3 : Int32).toNatClampNeg = 3 := by decide
  have hn : ¬ (3 : Int32) < 0 := by decide
  have h0 : ((3 : Int32) == 0) = false := by decide
  rw [multianewarray.make]
  simp only [wp_bind', W.ite, hn, if_false, wp_pure', W.theClass, hkA, htA, Option.some.injEq, exists_eq_left', h3, h0]
  refine W.newArray_of hkA htA (by omega) (by show ¬ 3 * 4 > _; omega) (by omega) (by omega) rfl (fun acts1 => ?_)
  rw [xm_o_new cA s.heap.size]
  simp only [Bool.false_eq_true, if_false, wp_bind', wp_pure', Std.Legacy.Range.forIn_eq_forIn_range']
  show wp (forIn [0, 1, 2] PUnit.unit _) _ E e d acts1 (xm_st s cA cI 0)
  rw [List.forIn_cons, wp_bind']
  refine xm_turn hkA htA hkI htI hl hh hc hs (i := 0) (by omega) (fun d1 a1 => ?_)
  show wp (forIn [1, 2] PUnit.unit _) _ E e d1 a1 (xm_st s cA cI 1)
  rw [List.forIn_cons, wp_bind']
  refine xm_turn hkA htA hkI htI hl hh hc hs (i := 1) (by omega) (fun d2 a2 => ?_)
  show wp (forIn [2] PUnit.unit _) _ E e d2 a2 (xm_st s cA cI 2)
  rw [List.forIn_cons, wp_bind']
  refine xm_turn hkA htA hkI htI hl hh hc hs (i := 2) (by omega) (fun d3 a3 => ?_)
  show wp (forIn [] PUnit.unit _) _ E e d3 a3 (xm_st s cA cI 3)
  rw [List.forIn_nil, wp_pure', wp_pure']
  exact hq _ _
end XMW
/-- the word arrayOver, of int[] -/
theorem xm_over {args : Array Value} {s : State} (h : (Cond.arrayOver (.array .int)).before args s = true) : ∃ (cI cA : ClassId) (kA : Class), s.vm.findClass "[I" = some cI ∧ s.vm.classes[cA]? = some kA ∧ kA.kind = .array cI (.array .int) ∧ s.vm.findClass "[[I" = some cA := by
  have h : (Cond.arrayOver (.array .int)).value args s none s [] = some true := by
    simpa only [Cond.before, Cond.holds, beq_iff_eq] using h
  have h : ((s.vm.findClass "[I").bind fun comp => (s.vm.classes.findIdx? fun (x : Class) => match x.kind with | .array component _ => component == comp | _ => false).bind fun c => (s.vm.classes[c]?).map fun (k : Class) => match k.kind with
      | .array _ ty => decide (ty = .array .int) && decide (s.vm.findClass "[[I" = some c)
      | _ => false) = some true := h
  obtain ⟨cI, h1, h⟩ := Option.bind_eq_some_iff.mp h
  obtain ⟨cA, h2, h⟩ := Option.bind_eq_some_iff.mp h
  obtain ⟨kA, h3, h⟩ := Option.map_eq_some_iff.mp h
  obtain ⟨hlt, h4, -⟩ := Array.findIdx?_eq_some_iff_getElem.mp h2
  rw [(Array.getElem?_eq_some_iff.mp h3).2] at h4
  refine ⟨cI, cA, kA, h1, h3, ?_⟩
  revert h h4
  cases kA.kind with
  | array c ty =>
    intro h h4
    have h := (Bool.and_eq_true _ _).mp h
    have h5 : c = cI := by simpa using h4
    rw [h5, of_decide_eq_true h.1]
    exact ⟨rfl, of_decide_eq_true h.2⟩
  | _ => intro h; cases h
section XMS
variable {p : Program} {l : Launch} {e : Env} {R : Room} {s : State} {m : MethodId} {args : Array Value} {below : List Frame} {meth : Method} {c : Code} {T : State} {locs : List Loc} {cells slots : Nat}
theorem xm_X (X : Stand p l e R s m args below meth c T locs cells slots) (cA cI : ClassId) : ∀ i, Stand p l e R s m args below meth c (xm_st T cA cI i) locs (cells + 1 + i) (slots + 3 + i * 7)
  | 0 => by
    have h := X.pushed (xm_o cA T.heap.size 0)
    rw [show (xm_o cA T.heap.size 0).slots.size = 3 from arrV_size _ _ _] at h
    simpa only [xm_st, Nat.add_zero, Nat.zero_mul] using h
  | i + 1 => by
    have hlt : T.heap.size < (xm_st T cA cI i).heap.size := by rw [xm_size]; omega
    have hcell : ((xm_st T cA cI i).pushCell (xm_r cI)).heap[T.heap.size]? = some (xm_o cA T.heap.size i) := by
      rw [State.heap_pushCell_of_lt (h := hlt)]
      exact xm_out T cA cI i
    have h := ((xm_X X cA cI i).pushed (xm_r cI)).stored hcell i (.ref (T.heap.size + 1 + i))
    rw [show (xm_r cI).slots.size = 7 from arrV_size _ _ _, xm_o_put] at h
    have h := h.dropFresh (fun x hx => by rw [List.mem_singleton.mp hx]; exact X.heapGrown)
    rw [show slots + 3 + (i + 1) * 7 = slots + 3 + i * 7 + 7 by omega]
    exact h
theorem xm_mna (X : Stand p l e R s m args below meth c T locs cells slots) (hexec : p.tables.exec = Jvm.exec) {own : String} {index : Nat} (hown : s.vm.findClass own = some m.cls)
    (hlink : (Cond.classLink own index "[[I").before args s = true) (hover : (Cond.arrayOver (.array .int)).before args s = true) (harr : (Cond.arrayClass .int).before args s = true)
    {g : JFrame} (hg : g.method = m) (hd : decode c.code g.pc = .ok (.multianewarray index 2, 4)) {rest : List Value} (hst : g.stack = .int 7 :: .int 3 :: rest) (hc : cells + 4 ≤ R.cells) (hs : slots + 24 ≤ R.slots) :
    ∃ (vm' : Vm) (cA cI : ClassId), s.vm.findClass "[[I" = some cA ∧ s.vm.findClass "[I" = some cI ∧ Stand p l e R s m args below meth c (xm_st (T.setVm vm') cA cI 3) locs (cells + 4) (slots + 24) ∧
      ∀ target, Steps p.tables e below ((xm_st (T.setVm vm') cA cI 3).setTop { g with pc := g.pc + 4, stack := .ref T.heap.size :: rest }) target → Steps p.tables e below (T.setTop g) target := by
  subst hg
  obtain ⟨cI, cA, kA, fI, hkA, htA, fA⟩ := xm_over hover
  obtain ⟨cI', kI, cc, fI', hkI, htI⟩ := Cond.arrayClass_spec harr
  have eI : cI' = cI := Option.some.inj (fI'.symm.trans fI)
  subst eI
  obtain ⟨cA', fA', hcl⟩ := Cond.classLink_spec hown hlink e.platform (by rw [X.admits.platform])
  have eA : cA' = cA := Option.some.inj (fA'.symm.trans fA)
  subst eA
  obtain ⟨hgv, hW, -⟩ := State.classEntry (e := e) X.warmed hcl
  generalize T.vm.noted g.method.cls index (.cls cA') = vm' at hgv hW
  obtain ⟨kA', hkA', eA⟩ := hW.alike.2.2 _ _ hkA
  obtain ⟨kI', hkI', eI⟩ := hW.alike.2.2 _ _ hkI
  have X' := X.noted hW
  obtain ⟨r1, r2⟩ := X.roomAbove hc hs
  have XF := xm_X X' cA' cI' 3
  refine ⟨vm', cA', cI', fA, fI, XF, fun target hT => ?_⟩
  have hl : 7 ≤ e.platform.arrayLengthLimit := by rw [Launch.admits_arrayLengthLimit X.admits]; decide
  have hh : 28 ≤ e.platform.maxHeapBytes := by rw [Launch.admits_maxHeapBytes X.admits]; decide
  jvm_step X.here [hexec, hd]
  simp only [multianewarray.sem, wp_bind', W.resolveClassAt_links (State.method?_setTop g X.here.top) hgv]
  rw [W.popN, if_neg (by decide)]
  refine ⟨g, State.topJava?_setTop' (s := T.setVm vm') g X.here.top, [.int 3, .int 7], rest, rfl, hst, ?_⟩
  simp only [List.mapM_cons, List.mapM_nil, wp_bind', wp_pure']
  refine xm_make (s := ((T.setTop g).setVm vm').setTop { g with stack := rest }) (kA := kA') (kI := kI') (cc := cc) hkA' (by rw [eA]; exact htA) hkI' (by rw [eI]; exact htI) hl hh r1 r2 (fun d' acts' => ?_)
  have eS : ((T.setTop g).setVm vm').setTop { g with stack := rest } = (T.setVm vm').setTop { g with stack := rest } := State.setTop_setTop (T.setVm vm') g { g with stack := rest }
  rw [eS, xm_top]
  simp only [wp_bind', W.mark, W.pushRef, State.topJava?_setTop' _ XF.here.top, Option.some.injEq, exists_eq_left', State.setTop_setTop, State.heap_setTop]
  intro acts
  simp [jvm, XF.here.top]
  exact hT
end XMS
