/-! THE CLAIM OUT OF ONE WALK OF THE LAW'S BODY. Your part is whole_start (and what it stands on); all else here is the same for every law, but numbers. -/
def R_law : String := "BeginJudgeLaw"
def lw_P (b : Addr) (xs : List Int32) (args : Array Value) (s : State) : Prop := args = #[.ref b] ∧ s.IntsAt b xs ∧ xs.length ≤ 3072 ∧ (Jvm.Cond.and given_1 narrow_1).before args s = true
def lw_Q (_ : Array Value) (s : State) (o : Outcome) (t : State) : Prop := o = .returned (some (.int 1)) ∧ Framed s o t [] 601024 7293034
def lw_Z (below : List Frame) (a : Array Value) (s : State) : State → Prop := fun t => ∃ o, t.status = .running ∧ Ended t below o ∧ lw_Q a s o t
/-- the law's own end, with 1 on the stack, nothing written that was there before, its room as the claim has it -/
theorem lw_ret {p : Program} {l : Launch} {e : Env} {s : State} {m : MethodId} {below : List Frame} {meth : Method} {c : Code} {b : Nat} (hx : p.tables.exec = Jvm.exec) (hb : c.code = code) (hr : meth.sig.returnType = ret) (hlocks : meth.locks = false) {pc : Nat} {H : Heap} {ls : Array Slot} (hdg : decode code pc = .ok (.ireturn, 1)) : W p l e room_1 s m #[Value.ref b] below meth c H [] 601024 7293034 (lw_Z below #[Value.ref b] s) (F0 m pc ls [.int 1]) := by
  intro T hT X
  obtain ⟨fs, hret, hrun, hended, hW, hframe⟩ := X.leave (v := some (.int 1)) (hlocks := hlocks) (fun h => by rw [hr] at h; cases h)
  have hmeth' : T.vm.method? m = some meth := X.method'
  refine ⟨T.setFrames fs, ?_, .returned (some (.int 1)), hrun, hended, rfl, ⟨_, rfl⟩, hW, hframe⟩
  jvm_step X.here [X.here.top, hx, hb, hdg, hmeth', hr, ret, narrow_b1]
  (try refine ⟨rfl, ?_⟩); (try refine ⟨rfl, ?_⟩)
  first | (intro acts; rw [hret _ acts rfl rfl rfl]) | rw [hret _ _ rfl rfl rfl]
  exact Steps.refl _
/-- what holds at the law's entry: the machine, the code, the tables' words (any of lw_tbl by 'hts w (by decide +kernel)'), the script of L ints xs at the cell b, what the Statement gives of the start (any of its parts by flat_of_before) -/
def lw_At (p : Program) (s : State) (m : MethodId) (meth : Method) (c : Code) (b L : Nat) (xs : Nat → Int32) : Prop :=
  p.tables.exec = Jvm.exec ∧ c.code = code ∧ meth.sig.returnType = ret ∧ c.maxLocals = 7 ∧ s.vm.findClass R_law = some m.cls ∧ (∀ w ∈ lw_tbl, w.before #[Value.ref b] s = true) ∧ va_X b L xs s s.heap ∧ b < s.heap.size ∧ meth.locks = false ∧ (Jvm.Cond.and given_1 narrow_1).before #[Value.ref b] s = true
/-! ===== x: the law ===== -/
def xsl {β : Type} (L : Nat) (xs : Nat → Int32) (i : Int32) (κ : Int32 → Option β) : Option β := if xin i L then κ (xs i.toNatClampNeg) else none
abbrev xQL (X : XX) : Unit → State → Prop := fun _ => lw_Z X.2.2.2.2.2.1 X.2.2.2.2.1 X.2.2.1
theorem xgoodW {M' : XD} {hh : List (Nat × Nat × Nat × Nat)} (h : Cond.codeWith M'.1 M'.2.1 M'.2.2.1 M'.2.2.2.1 hh ∈ xB) : GoodIn xB (xwsW M' hh) := by
  intro w hw
  have h1 : w ∈ xB := by
    rcases List.mem_cons.mp hw with e | e
    · rw [e]; exact h
    · exact e
  exact ⟨h1, good_of_word (List.mem_filter.mp h1).2⟩
def xmw (own : String) (idx : Nat) (M' : XD) (hh : List (Nat × Nat × Nat × Nat)) (n : Nat) : Prop := Cond.methodLink own idx M'.1 ∈ xB ∧ Cond.codeWith M'.1 M'.2.1 M'.2.2.1 M'.2.2.2.1 hh ∈ xB ∧ Cond.initialized M'.1.cls ∈ xB ∧ Cond.static M'.1 ∈ xB ∧ (M'.1.cls ≠ "java/lang/invoke/MethodHandle" ∧ M'.1.cls ≠ "java/lang/invoke/VarHandle" ∧ (parseMethodDescriptor M'.1.desc).map (fun d => d.parameters.length) = some n) ∧ M'.2.2.1 ≤ 29
section XLW
variable {R : Room} {A : Nat → Prop} {c0 s0 : Nat} {G : XG} {l : Launch} {X : XX} {M M' : XD} {pc : Nat} {lv : List (Nat × Value)} {st stk : List Value} {m : XM} {α : Type} {Q : α → State → Prop}
theorem xF_cs {c1 s1 : Nat} (F : xF (R, A, c0, s0) G X M) (h : c1 ≤ R.cells ∧ s1 ≤ R.slots) : xF (R, A, c1, s1) G X M := by
  obtain ⟨f1, f2, f3, f4, f5, f6, f7, f8, f9, f10, f11, -⟩ := F
  exact ⟨f1, f2, f3, f4, f5, f6, f7, f8, f9, f10, f11, h⟩
theorem xj_sld {E : XE} (F : xF E G X M) {b q0 L : Nat} {xs : Nat → Int32} (hq : q0 = b) (hX : va_X b L xs X.2.2.1 X.2.2.1.heap) (hbl : b < X.2.2.1.heap.size) (hbA : ¬ E.2.1 b) {i : Int32} {κ : Int32 → Option α} (hd : decode M.2.1 pc = .ok (.iaload, 1)) (k : ∀ v, xJ E Q G l X M (pc + 1) lv (.int v :: st) m (κ v)) : xJ E Q G l X M pc lv (.int i :: .ref q0 :: st) m (xsl L xs i κ) := by
  subst hq
  intro z hz H locs ls hP hS hT hl
  by_cases h : xin i L
  · rw [xsl, if_pos h] at hz
    exact va_sld F.1 F.2.1 hX hbl hbA hS (xin_vp h) hd (k _ z hz H locs ls hP hS hT hl)
  · rw [xsl, if_neg h] at hz; cases hz
theorem xj_slenL {E : XE} (F : xF E G X M) {b q0 L : Nat} {xs : Nat → Int32} (hq : q0 = b) (hX : va_X b L xs X.2.2.1 X.2.2.1.heap) (hbl : b < X.2.2.1.heap.size) (hbA : ¬ E.2.1 b) {κ : Int32 → Option α} (hd : decode M.2.1 pc = .ok (.arraylength, 1)) (k : ∀ v, xJ E Q G l X M (pc + 1) lv (.int v :: st) m (κ v)) : xJ E Q G l X M pc lv (.ref q0 :: st) m (xv (Int32.ofNat L) κ) := by
  subst hq
  intro z hz H locs ls hP hS hT hl
  exact va_slen F.1 F.2.1 hX hbl hbA hS hd (k _ z hz H locs ls hP hS hT hl)
/-- a caller that catches is called by the law -/
theorem xj_callW (F : xF (R, A, c0, s0) G X M) (hA : ∀ q, X.2.2.1.heap.size ≤ q → A q) (hZ : xZ A X.2.2.1) {idx n d' : Nat} {hh : List (Nat × Nat × Nat × Nat)} {As : List Value} {o : Option (Int32 × XM)} {κ : Int32 → XM → Option α} (hl : xmw M.1.cls idx M' hh n) (hn : As.length = n) (hs : stk = As.reverse ++ st) (hW : (st.map fun v => v.category).sum ≤ 8) (hd' : d' + 1 ≤ R.frames ∧ 48 * (d' + 1) ≤ R.locals) (hrm : c0 + 1 ≤ R.cells ∧ s0 + 6 ≤ R.slots) (hd : decode M.2.1 pc = .ok (.invokestatic idx, 3)) (hM : xT G m → ∀ z, o = some z → xWMet G l M' hh d' As m z) (k : ∀ (r : Int32) (m' : XM), xJ (R, A, c0 + 1, s0 + 6) Q G l X M (pc + 3) lv (.int r :: st) m' (κ r m')) : xJ (R, A, c0, s0) Q G l X M pc lv stk m (xca o κ) := by
  intro z hz
  cases ho : o with
  | none => rw [ho] at hz; cases hz
  | some r0 =>
    rw [ho] at hz
    intro H locs ls hP hS hT hl0
    obtain ⟨q1, q2, q3, q4, q5, q6⟩ := hl
    have hK := F.2.2.2.2.2.2.2.1
    have hw := F.2.2.2.2.2.1
    have hMet := hM hT r0 ho H.size
    have hAn : ∀ q, xAn G H.size q → A q := fun q hq => by
      rcases hq with ⟨i, hi, he⟩ | hq
      · rw [he]; exact xFA F i hi
      · exact hA q (Nat.le_trans hS.1 hq)
    have cw : vx_CSW R X.2.2.1 X.2.2.2.2.1 M.1.cls idx M'.1 M'.2.1 M'.2.2.1 M'.2.2.2.1 hh (xwsW M' hh) (xroomX d') 1 6 n := by
      refine ⟨⟨rfl, rfl, hd'.1, ?_, pay_in hw (xgoodW q2), List.mem_cons_self⟩, hw _ q2, hw _ q3, ⟨q5.1, q5.2.1⟩, fun sig h => ?_, hw _ q1, hw _ q4⟩
      · show 8 + (M'.2.2.1 + 11) + 48 * d' ≤ R.locals
        omega
      · have h2 := q5.2.2
        rw [h] at h2
        exact (Option.some.inj h2).symm
    have hrun := vx_runSW (g := F0 X.2.2.2.1 pc ls stk) (As := As) (rest := st) (l := l) (below := X.2.2.2.2.2.1) (meth := X.2.2.2.2.2.2.1) (e := X.2.1) (locs := locs) (cells := c0) (slots := s0) (H := H) ⟨F.1, F.2.1, F.2.2.2.1, F.2.2.2.2.1, F.2.2.2.2.2.1⟩ hMet cw ⟨fun a U g mk q => ⟨q.1, q.2.1, q.2.2.1, va_K.moved (u := U) (U := U.calling g mk a) (Vm.Alike.refl U.vm) q.2.2.2.1, xSt_same (u := U) (U := U.calling g mk a) rfl rfl q.2.2.2.2.1, xZ_same (u := U) (U := U.calling g mk a) rfl rfl q.2.2.2.2.2⟩, fun U hU hWU => ⟨rfl, by rw [hU], by rw [hU]; exact hP, va_K.moved hWU.alike hK, xSt_in hAn (xSt_go hWU (fun a h1 h2 => by rw [hU]; exact hS.2.1 a h1 h2) (xFs F)), xZ_in hAn (xZ_go hWU (fun a h1 h2 => by rw [hU]; exact hS.2.1 a h1 h2) hZ)⟩⟩ rfl hn hl0.1 hs (by exact Nat.le_trans (Nat.le_of_eq (Nat.zero_add _)) hW) hd hrm
    intro T0 hT0 Xs
    obtain ⟨v, st₀, t, T', L, h0, X', hL, e1, e2, ⟨hv, hP', hK', hT', hz1, hkk⟩, stp⟩ := hrun T0 hT0 Xs
    cases hv
    rw [h0] at hz1 hkk
    have hS1 : va_S A X.2.2.1.heap T'.heap (locs ++ L) := ⟨Nat.le_trans hS.1 (by rw [e1]; exact hz1), fun q h1 h2 => by rw [e1, hkk q (Nat.lt_of_lt_of_le h1 hS.1) (fun h => h2 (hAn q h))]; exact hS.2.1 q h1 h2, fun q hq => by
      rcases List.mem_append.mp hq with h | h
      · exact hS.2.2 q h
      · exact hAn _ (hL q h)⟩
    obtain ⟨t2, a1, b1⟩ := k r0.1 r0.2 z hz T'.heap (locs ++ L) ls (by rw [e1]; exact hP') hS1 hT' hl0 T' rfl X'
    exact ⟨t2, stp t2 a1, b1⟩
end XLW
/-- the law answers 1 -/
theorem xj_lawret {A : Nat → Prop} {c0 s0 b : Nat} {G : XG} {l : Launch} {X : XX} {M : XD} {pc : Nat} {lv : List (Nat × Value)} {m : XM} (F : xF (room_1, A, c0, s0) G X M) (hA : ∀ q, A q → X.2.2.1.heap.size ≤ q) (hM : M.2.1 = code) (hr : M.2.2.2.1 = ret) (ha : X.2.2.2.2.1 = #[Value.ref b]) (hd : decode M.2.1 pc = .ok (.ireturn, 1)) : xJ (room_1, A, c0, s0) (xQL X) G l X M pc lv [.int 1] m (some ()) := by
  intro z hz H locs ls hP hS hT hl
  obtain ⟨p, e, s, mid, args, below, meth, c⟩ := X
  dsimp only at ha
  subst ha
  refine va_forget (fun q hq => hA _ (hS.2.2 q hq)) ?_
  refine W.widen (k := 601024) (n := 7293034) (xFr F).1 (xFr F).2 ?_
  exact lw_ret F.1 (F.2.1.trans hM) (F.2.2.1.trans hr) F.2.2.2.2.2.2.1 (by rw [← hM]; exact hd)
