/-! ===== x: contracts and the judgement ===== -/
/-- a method: name, code, locals, answer -/
abbrev XD : Type := MethodName × ByteArray × Nat × Option FieldType
def xB : List Cond := lw_tbl.filter goodWord
theorem xmem {w : Cond} (i : Nat) (h : lw_tbl[i]? = some w) (hg : goodWord w = true) : w ∈ xB := List.mem_filter.mpr ⟨List.mem_of_getElem? h, hg⟩
theorem xmems {ws : List Cond} (ps : List Nat) (h : ws = ps.filterMap (fun i => lw_tbl[i]?)) (hg : ws.all goodWord = true) : ∀ w ∈ ws, w ∈ xB := by
  intro w hw
  refine List.mem_filter.mpr ⟨?_, List.all_eq_true.mp hg w hw⟩
  rw [h] at hw
  obtain ⟨i, -, hi⟩ := List.mem_filterMap.mp hw
  exact List.mem_of_getElem? hi
abbrev xcd (M : XD) : Cond := Cond.code M.1 M.2.1 M.2.2.1 M.2.2.2
def xws (M : XD) : List Cond := xcd M :: xB
def xroom (d : Nat) : Room := { frames := d, cells := 0, slots := 0, locals := 48 * d }
theorem xgood {M M' : XD} (h : xcd M' ∈ xB) : GoodIn (xws M) (xws M') := by
  intro w hw
  have h1 : w ∈ xB := by
    rcases List.mem_cons.mp hw with e | e
    · rw [e]; exact h
    · exact e
  exact ⟨List.mem_cons_of_mem _ h1, good_of_word (List.mem_filter.mp h1).2⟩
def xPc (G : XG) (av : List Value) (m : XM) : Array Value → State → Prop := fun v U => v = av.toArray ∧ va_P G.1 vwCl (xw G m) U.heap ∧ xK G U
def xQc (G : XG) (r : Option Value × XM) : Array Value → State → Outcome → State → Prop := fun _ st o t => o = .returned r.1 ∧ va_P G.1 vwCl (xw G r.2) t.heap ∧ xK G t ∧ xT G r.2 ∧ va_F (xA G) st t
/-- the contract of a method: from memory m it answers r.1, and leaves memory r.2 -/
def xMet (G : XG) (l : Launch) (M : XD) (d : Nat) (av : List Value) (m : XM) (r : Option Value × XM) : Prop := Met l M.1 (xws M) (xroom d) (xPc G av m) (xQc G r) 0 0 (xA G)
abbrev XX : Type := Program × Env × State × MethodId × Array Value × List Frame × Method × Code
def xF (G : XG) (X : XX) (M : XD) : Prop := X.1.tables.exec = Jvm.exec ∧ X.2.2.2.2.2.2.2.code = M.2.1 ∧ X.2.2.2.2.2.2.1.sig.returnType = M.2.2.2 ∧ X.2.2.2.2.2.2.2.maxLocals = M.2.2.1 ∧ X.2.2.1.vm.findClass M.1.cls = some X.2.2.2.1.cls ∧ (∀ w ∈ xws M, w.before X.2.2.2.2.1 X.2.2.1 = true) ∧ X.2.2.2.2.2.2.1.locks = false ∧ xK G X.2.2.1 ∧ G.2.2.1.Nodup
def xGo (G : XG) (l : Launch) (d : Nat) (X : XX) (M : XD) (r : Option Value × XM) (pc : Nat) (lv : List (Nat × Value)) (st : List Value) (m : XM) : Prop :=
  ∀ (H : Heap) (locs : List Loc) (ls : Array Slot), va_P G.1 vwCl (xw G m) H → va_S (xA G) X.2.2.1.heap H locs → xT G m → lv_has ls M.2.2.1 lv →
    W X.1 l X.2.1 (xroom d) X.2.2.1 X.2.2.2.1 X.2.2.2.2.1 X.2.2.2.2.2.1 X.2.2.2.2.2.2.1 X.2.2.2.2.2.2.2 H locs 0 0 (MQ X.2.2.2.2.2.1 (xQc G r) X.2.2.2.2.1 X.2.2.1 0 0 (xA G)) (F0 X.2.2.2.1 pc ls st)
/-- at pc, with these locals, this stack and memory m, the machine does what the term t says -/
def xJ {α : Type} (ρ : α → Option Value × XM) (G : XG) (l : Launch) (d : Nat) (X : XX) (M : XD) (pc : Nat) (lv : List (Nat × Value)) (st : List Value) (m : XM) (t : Option α) : Prop := ∀ z, t = some z → xGo G l d X M (ρ z) pc lv st m
def xrI (z : Int32 × XM) : Option Value × XM := (some (.int z.1), z.2)
def xrL (z : Int64 × XM) : Option Value × XM := (some (.long z.1), z.2)
def xrR (z : Nat × XM) : Option Value × XM := (some (.ref z.1), z.2)
def xrV (z : XM) : Option Value × XM := (none, z)
theorem xofW {l : Launch} {M : XD} {rm : Room} {Pc : Array Value → State → Prop} {Qc : Array Value → State → Outcome → State → Prop} {mc ms : Nat} {free : Addr → Prop} (hy : plainFor M.1 = true)
    (body : ∀ p e s m args below meth c s₁, BodyLoose p l M.1 (headSpec (xws M) rm) M.2.1 M.2.2.1 M.2.2.2 e s m args below meth c s₁ → c.maxLocals = M.2.2.1 → Pc args s →
      W p l e (headSpec (xws M) rm).room s m args below meth c s.heap [] 0 0 (MQ below Qc args s mc ms free) (entryFrame m args M.2.2.1)) : Met l M.1 (xws M) rm Pc Qc mc ms free := by
  refine MetFree.of_bodySF (code := M.2.1) (maxLocals := M.2.2.1) (ret := M.2.2.2) hy ?_ ?_
  · intro args s m h hn
    obtain ⟨meth, c, h1, h2, h3, h4, h5, h6, -, -⟩ := Cond.code_spec hn (atoms_spec (ws := xws M) h _ List.mem_cons_self)
    exact ⟨meth, c, h1, h2, h3, h4, h5, h6⟩
  · intro p e s m args below meth c s₁ B hml hP _
    have hh0 : s₁.heap = s.heap := by rw [B.state]; rfl
    obtain ⟨t, a1, o, b1, b2, b3⟩ := body p e s m args below meth c s₁ B hml hP s₁ hh0 (Stand.of_body B)
    exact ⟨t, o, a1, b1, b2, ⟨b3.1, b3.2⟩⟩
theorem xMet_of {α : Type} {ρ : α → Option Value × XM} {G : XG} {l : Launch} {M : XD} {d : Nat} {av : List Value} {m : XM} {t : Option α} (hy : plainFor M.1 = true) (hn : G.2.2.1.Nodup) (hT : xT G m) (hav : (lg_sl av).length ≤ M.2.2.1)
    (h : ∀ X : XX, xF G X M → xJ ρ G l d X M 0 (lv_args 0 av) [] m t) : ∀ z, t = some z → xMet G l M d av m (ρ z) := by
  intro z hz
  refine xofW hy ?_
  intro p e s mid args below meth c s₁ B hml hv
  obtain ⟨rfl, hP, hK⟩ := hv
  have hl := lv_entry av (n := M.2.2.1) hav
  rw [lg_entry_eq]
  exact h (p, e, s, mid, av.toArray, below, meth, c) ⟨B.exec, B.bytes, B.returns, hml, findClass_of_methodNamed B.named, atoms_spec (ws := xws M) B.pre, B.notSynchronized, hK, hn⟩ z hz s.heap [] _ hP va_S.rf hT hl
/-! ===== the words of terms ===== -/
def xv {α β : Type} (x : α) (κ : α → Option β) : Option β := κ x
def xgr {β : Type} (m : XM) (a k : Nat) (κ : Nat → Option β) : Option β := match gr m a k with
  | none => none
  | some u => κ u
abbrev xin (i : Int32) (n : Nat) : Prop := 0 ≤ i ∧ i.toNatClampNeg < n
theorem xin_vp {i : Int32} {n : Nat} (h : xin i n) : vp_in i n := fun q => q.elim (fun q => absurd h.1 (Int32.not_le.mpr q)) (fun q => absurd h.2 (Nat.not_lt.mpr q))
def xald {β : Type} (N : Nat → Nat) (m : XM) (a : Nat) (i : Int32) (κ : Int32 → Option β) : Option β := if xin i (N a) then κ (gi m a i.toNatClampNeg) else none
def xlld {β : Type} (N : Nat → Nat) (m : XM) (a : Nat) (i : Int32) (κ : Int64 → Option β) : Option β := if xin i (N a) then κ (gl m a i.toNatClampNeg) else none
def xrld {β : Type} (N : Nat → Nat) (m : XM) (a : Nat) (i : Int32) (κ : Nat → Option β) : Option β := if xin i (N a) then xgr m a i.toNatClampNeg κ else none
def xast {β : Type} (N : Nat → Nat) (m : XM) (a : Nat) (i v : Int32) (κ : XM → Option β) : Option β := if xin i (N a) then κ (si m a i.toNatClampNeg v) else none
def xzst {β : Type} (N : Nat → Nat) (m : XM) (a : Nat) (i v : Int32) (κ : XM → Option β) : Option β := if xin i (N a) then κ (si m a i.toNatClampNeg (vp_nar .boolean v)) else none
def xlst {β : Type} (N : Nat → Nat) (m : XM) (a : Nat) (i : Int32) (v : Int64) (κ : XM → Option β) : Option β := if xin i (N a) then κ (sl m a i.toNatClampNeg v) else none
def xdv {β : Type} (y : Int32) (o : Option β) : Option β := if y = 0 then none else o
def xca {α β : Type} (o : Option (α × XM)) (κ : α → XM → Option β) : Option β := match o with
  | none => none
  | some z => κ z.1 z.2
def xcv {β : Type} (o : Option XM) (κ : XM → Option β) : Option β := match o with
  | none => none
  | some z => κ z
