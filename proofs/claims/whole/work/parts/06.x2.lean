/-! ===== x: contracts and the judgement ===== -/
/-- a method: name, code, locals, answer, the kind of a reference that it answers -/
abbrev XD : Type := MethodName × ByteArray × Nat × Option FieldType × Nat
abbrev xcd (M : XD) : Cond := Cond.code M.1 M.2.1 M.2.2.1 M.2.2.2.1
def xws (M : XD) : List Cond := xcd M :: xB
def xroom (d : Nat) : Room := { frames := d, cells := 0, slots := 0, locals := 48 * d }
theorem xgood {M' : XD} (h : xcd M' ∈ xB) : GoodIn xB (xws M') := by
  intro w hw
  have h1 : w ∈ xB := by
    rcases List.mem_cons.mp hw with e | e
    · rw [e]; exact h
    · exact e
  exact ⟨h1, good_of_word (List.mem_filter.mp h1).2⟩
/-- the literals: class, place in its pool, text, number -/
def xstrs : List (String × Nat × String × Nat) := [("BeginJudge$Reader", 117, "unit", 0), ("BeginJudge$Reader", 123, "main", 1), ("BeginJudge$Reader", 125, "const", 2), ("BeginJudge$Reader", 127, "var", 3), ("BeginJudge$Reader", 129, "do", 4), ("BeginJudge$Reader", 131, "fun", 5), ("BeginJudge$Reader", 133, "give", 6), ("BeginJudge$Reader", 135, "fail", 7), ("BeginJudgeModel", 261, "unit", 8), ("BeginJudgeModel", 266, "main", 9), ("BeginJudgeModel", 230, "const", 10), ("BeginJudgeModel", 232, "var", 11), ("BeginJudgeModel", 234, "do", 12), ("BeginJudgeModel", 236, "fun", 13), ("BeginJudgeModel", 224, "give", 14), ("BeginJudgeModel", 174, "fail", 15)]
def xslen : List Nat := [4, 4, 5, 3, 2, 3, 4, 4, 4, 4, 5, 3, 2, 3, 4, 4]
def xsbyt : List (List Int32) := [[117, 110, 105, 116], [109, 97, 105, 110], [99, 111, 110, 115, 116], [118, 97, 114], [100, 111], [102, 117, 110], [103, 105, 118, 101], [102, 97, 105, 108], [117, 110, 105, 116], [109, 97, 105, 110], [99, 111, 110, 115, 116], [118, 97, 114], [100, 111], [102, 117, 110], [103, 105, 118, 101], [102, 97, 105, 108]]
/-- what a state holds beside the world, and nothing changes: the literals, and two statics -/
def xSt (A : Nat → Prop) (G : XG) (U : State) : Prop := (∀ i : Nat, i < 16 → va_O "java/lang/String" (G.1.2.1 i) A U U.heap ∧ va_OF "java/lang/String" "coder" "B" (.int 0) (G.1.2.1 i) A U U.heap ∧ va_OF "java/lang/String" "value" "[B" (.ref (G.1.2.2 i)) (G.1.2.1 i) A U U.heap ∧ va_T .byte (G.1.2.2 i) (xslen.getD i 0) (fun j => .int ((xsbyt.getD i []).getD j 0)) A U U.heap) ∧ (∀ q ∈ xstrs, vk_R q.1 q.2.1 q.2.2.1 (G.1.2.1 q.2.2.2) U) ∧ va_Z "java/lang/String" "COMPACT_STRINGS" "Z" (.int 1) A U U.heap ∧ va_Zq "jdk/internal/util/Preconditions" "SIOOBE_FORMATTER" "Ljava/util/function/BiFunction;" A U U.heap ∧ (Cond.arrayOver (.array .int)).before #[] U = true
theorem xSt_same {A : Nat → Prop} {G : XG} {u U : State} (hv : U.vm = u.vm) (hh : U.heap = u.heap) (h : xSt A G u) : xSt A G U := by
  obtain ⟨h1, h2, h3, h4, h5⟩ := h
  have ha : u.vm.Alike U.vm := by rw [hv]; exact Vm.Alike.refl _
  refine ⟨fun i hi => ?_, fun q hq => (h2 q hq).same hv, ?_, ?_, over_moved ha h5⟩
  · obtain ⟨q1, q2, q3, q4⟩ := h1 i hi
    rw [hh]
    exact ⟨q1.moved ha, q2.moved ha, q3.moved ha, q4.moved ha⟩
  · rw [hh]; exact h3.moved ha
  · rw [hh]; exact h4.moved ha
theorem xSt_go {A : Nat → Prop} {G : XG} {s U : State} (hW : s.WarmedH U.vm) (hq : ∀ a : Nat, a < s.heap.size → ¬ A a → U.heap[a]? = s.heap[a]?) (h : xSt A G s) : xSt A G U := by
  obtain ⟨h1, h2, h3, h4, h5⟩ := h
  refine ⟨fun i hi => ?_, fun q hq => (h2 q hq).warm hW, (h3.moved hW.alike).kept hq, (h4.moved hW.alike).kept hq, over_moved hW.alike h5⟩
  obtain ⟨q1, q2, q3, q4⟩ := h1 i hi
  exact ⟨(q1.moved hW.alike).kept hq, (q2.moved hW.alike).kept hq, (q3.moved hW.alike).kept hq, (q4.moved hW.alike).kept hq⟩
theorem xSt_in {A B : Nat → Prop} {G : XG} {U : State} (hAB : ∀ q, B q → A q) (h : xSt A G U) : xSt B G U := by
  obtain ⟨h1, h2, h3, h4, h5⟩ := h
  exact ⟨fun i hi => ⟨(h1 i hi).1.narrow hAB, (h1 i hi).2.1.narrow hAB, (h1 i hi).2.2.1.narrow hAB, (h1 i hi).2.2.2.narrow hAB⟩, h2, h3.narrow hAB, h4.narrow hAB, h5⟩
/-- an end: the answer, the memory, the number of the cell that is answered -/
abbrev XR : Type := Option Value × XM × Option Nat
def xPc (G : XG) (av : List Value) (m : XM) : Array Value → State → Prop := fun v U => v = av.toArray ∧ va_P G.1.1 vwCl (xw G m) U.heap ∧ xK G U ∧ xSt (xA G) G U
def xQc (G : XG) (M : XD) (r : XR) : Array Value → State → Outcome → State → Prop := fun _ st o t => o = .returned r.1 ∧ (∀ b, r.2.2 = some b → isa G b M.2.2.2.2) ∧ va_P G.1.1 vwCl (xw G r.2.1) t.heap ∧ xK G t ∧ xT G r.2.1 ∧ va_F (xA G) st t
/-- the contract of a method: from memory m it answers r.1, and leaves memory r.2.1 -/
def xMet (G : XG) (l : Launch) (M : XD) (d : Nat) (av : List Value) (m : XM) (r : XR) : Prop := Met l M.1 (xws M) (xroom d) (xPc G av m) (xQc G M r) 0 0 (xA G)
abbrev XX : Type := Program × Env × State × MethodId × Array Value × List Frame × Method × Code
/-- where a walk stands: its room, the cells that it may change, the cells and slots that are new -/
abbrev XE : Type := Room × (Nat → Prop) × Nat × Nat
def xF (E : XE) (G : XG) (X : XX) (M : XD) : Prop := X.1.tables.exec = Jvm.exec ∧ X.2.2.2.2.2.2.2.code = M.2.1 ∧ X.2.2.2.2.2.2.1.sig.returnType = M.2.2.2.1 ∧ X.2.2.2.2.2.2.2.maxLocals = M.2.2.1 ∧ X.2.2.1.vm.findClass M.1.cls = some X.2.2.2.1.cls ∧ (∀ w ∈ xB, w.before X.2.2.2.2.1 X.2.2.1 = true) ∧ X.2.2.2.2.2.2.1.locks = false ∧ xK G X.2.2.1 ∧ xN G ∧ xSt E.2.1 G X.2.2.1 ∧ (∀ i, i < G.2.2.1 → E.2.1 (xad G i)) ∧ E.2.2.1 ≤ E.1.cells ∧ E.2.2.2 ≤ E.1.slots
theorem xFA {E : XE} {G : XG} {X : XX} {M : XD} (F : xF E G X M) : ∀ i, i < G.2.2.1 → E.2.1 (xad G i) := F.2.2.2.2.2.2.2.2.2.2.1
theorem xFr {E : XE} {G : XG} {X : XX} {M : XD} (F : xF E G X M) : E.2.2.1 ≤ E.1.cells ∧ E.2.2.2 ≤ E.1.slots := F.2.2.2.2.2.2.2.2.2.2.2
theorem xFs {E : XE} {G : XG} {X : XX} {M : XD} (F : xF E G X M) : xSt E.2.1 G X.2.2.1 := F.2.2.2.2.2.2.2.2.2.1
theorem xnd {E : XE} {G : XG} {X : XX} {M : XD} (F : xF E G X M) : xN G := F.2.2.2.2.2.2.2.2.1
def xGo (E : XE) (Q : State → Prop) (G : XG) (l : Launch) (X : XX) (M : XD) (pc : Nat) (lv : List (Nat × Value)) (st : List Value) (m : XM) : Prop :=
  ∀ (H : Heap) (locs : List Loc) (ls : Array Slot), va_P G.1.1 vwCl (xw G m) H → va_S E.2.1 X.2.2.1.heap H locs → xT G m → lv_has ls M.2.2.1 lv →
    W X.1 l X.2.1 E.1 X.2.2.1 X.2.2.2.1 X.2.2.2.2.1 X.2.2.2.2.2.1 X.2.2.2.2.2.2.1 X.2.2.2.2.2.2.2 H locs E.2.2.1 E.2.2.2 Q (F0 X.2.2.2.1 pc ls st)
/-- at pc, with these locals, this stack and memory m, the machine does what the term t says -/
def xJ {α : Type} (E : XE) (Q : α → State → Prop) (G : XG) (l : Launch) (X : XX) (M : XD) (pc : Nat) (lv : List (Nat × Value)) (st : List Value) (m : XM) (t : Option α) : Prop := ∀ z, t = some z → xGo E (Q z) G l X M pc lv st m
/-- a method's own room and end -/
abbrev xE (G : XG) (d : Nat) : XE := (xroom d, xA G, 0, 0)
abbrev xQ {α : Type} (ρ : α → XR) (G : XG) (X : XX) (M : XD) : α → State → Prop := fun z => MQ X.2.2.2.2.2.1 (xQc G M (ρ z)) X.2.2.2.2.1 X.2.2.1 0 0 (xA G)
def xrI (z : Int32 × XM) : XR := (some (.int z.1), z.2, none)
def xrL (z : Int64 × XM) : XR := (some (.long z.1), z.2, none)
def xrR (G : XG) (z : Nat × XM) : XR := (some (.ref (xad G z.1)), z.2, some z.1)
def xrV (z : XM) : XR := (none, z, none)
theorem xofW {l : Launch} {M : XD} {rm : Room} {Pc : Array Value → State → Prop} {Qc : Array Value → State → Outcome → State → Prop} {mc ms : Nat} {free : Addr → Prop} (hy : plainFor M.1 = true)
    (body : ∀ p e s m args below meth c s₁, BodyLoose p l M.1 (headSpec (xws M) rm) M.2.1 M.2.2.1 M.2.2.2.1 e s m args below meth c s₁ → c.maxLocals = M.2.2.1 → Pc args s →
      W p l e (headSpec (xws M) rm).room s m args below meth c s.heap [] 0 0 (MQ below Qc args s mc ms free) (entryFrame m args M.2.2.1)) : Met l M.1 (xws M) rm Pc Qc mc ms free := by
  refine MetFree.of_bodySF (code := M.2.1) (maxLocals := M.2.2.1) (ret := M.2.2.2.1) hy ?_ ?_
  · intro args s m h hn
    obtain ⟨meth, c, h1, h2, h3, h4, h5, h6, -, -⟩ := Cond.code_spec hn (atoms_spec (ws := xws M) h _ List.mem_cons_self)
    exact ⟨meth, c, h1, h2, h3, h4, h5, h6⟩
  · intro p e s m args below meth c s₁ B hml hP _
    have hh0 : s₁.heap = s.heap := by rw [B.state]; rfl
    obtain ⟨t, a1, o, b1, b2, b3⟩ := body p e s m args below meth c s₁ B hml hP s₁ hh0 (Stand.of_body B)
    exact ⟨t, o, a1, b1, b2, ⟨b3.1, b3.2⟩⟩
theorem xMet_of {α : Type} {ρ : α → XR} {G : XG} {l : Launch} {M : XD} {d : Nat} {av : List Value} {m : XM} {t : Option α} (hy : plainFor M.1 = true) (hn : xN G) (hT : xT G m) (hav : (lg_sl av).length ≤ M.2.2.1)
    (h : ∀ X : XX, xF (xE G d) G X M → xJ (xE G d) (xQ ρ G X M) G l X M 0 (lv_args 0 av) [] m t) : ∀ z, t = some z → xMet G l M d av m (ρ z) := by
  intro z hz
  refine xofW hy ?_
  intro p e s mid args below meth c s₁ B hml hv
  obtain ⟨rfl, hP, hK, hSt⟩ := hv
  have hl := lv_entry av (n := M.2.2.1) hav
  rw [lg_entry_eq]
  exact h (p, e, s, mid, av.toArray, below, meth, c) ⟨B.exec, B.bytes, B.returns, hml, findClass_of_methodNamed B.named, fun w hw => atoms_spec (ws := xws M) B.pre w (List.mem_cons_of_mem _ hw), B.notSynchronized, hK, hn, hSt, fun i hi => ⟨i, hi, rfl⟩, Nat.le_refl _, Nat.le_refl _⟩ z hz s.heap [] _ hP va_S.rf hT hl
/-! ===== the words of terms ===== -/
def xv {α β : Type} (x : α) (κ : α → Option β) : Option β := κ x
def xgr {β : Type} (m : XM) (a k : Nat) (κ : Nat → Option β) : Option β := match gr m a k with
  | none => none
  | some u => κ u
abbrev xin (i : Int32) (n : Nat) : Prop := 0 ≤ i ∧ i.toNatClampNeg < n
theorem xin_vp {i : Int32} {n : Nat} (h : xin i n) : vp_in i n := fun q => q.elim (fun q => absurd h.1 (Int32.not_le.mpr q)) (fun q => absurd h.2 (Nat.not_lt.mpr q))
def xald {β : Type} (N : Nat → Nat) (m : XM) (a : Nat) (i : Int32) (κ : Int32 → Option β) : Option β := if xin i (N a) then κ (gi m a i.toNatClampNeg) else none
def xlld {β : Type} (N : Nat → Nat) (m : XM) (a : Nat) (i : Int32) (κ : Int64 → Option β) : Option β := if xin i (N a) then κ (gl m a i.toNatClampNeg) else none
def xrld {β : Type} (N : Nat → Nat) (m : XM) (a : Nat) (i : Int32) (κ : Nat → Option β) : Option β := if xin i (N a) then xgr m a i.toNatClampNeg κ else none
def xast {β : Type} (N : Nat → Nat) (m : XM) (a : Nat) (i v : Int32) (κ : XM → Option β) : Option β := if xin i (N a) then κ (si m a i.toNatClampNeg v) else none
def xzst {β : Type} (N : Nat → Nat) (m : XM) (a : Nat) (i v : Int32) (κ : XM → Option β) : Option β := if xin i (N a) then κ (si m a i.toNatClampNeg (vp_nar .boolean v)) else none
def xlst {β : Type} (N : Nat → Nat) (m : XM) (a : Nat) (i : Int32) (v : Int64) (κ : XM → Option β) : Option β := if xin i (N a) then κ (sl m a i.toNatClampNeg v) else none
def xdv {β : Type} (y : Int32) (o : Option β) : Option β := if y = 0 then none else o
def xca {α β : Type} (o : Option (α × XM)) (κ : α → XM → Option β) : Option β := match o with
  | none => none
  | some z => κ z.1 z.2
def xcv {β : Type} (o : Option XM) (κ : XM → Option β) : Option β := match o with
  | none => none
  | some z => κ z
