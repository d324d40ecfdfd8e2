/-! ===== x: the law's own callers: methods that catch ===== -/
def xwsW (M : XD) (hh : List (Nat × Nat × Nat × Nat)) : List Cond := Cond.codeWith M.1 M.2.1 M.2.2.1 M.2.2.2.1 hh :: xB
def xQW (G : XG) (r : Int32 × XM) (sz : Nat) : Array Value → State → Outcome → State → Prop := fun _ st o t => o = .returned (some (.int r.1)) ∧ va_P G.1.1 vwCl (xw G r.2) t.heap ∧ xK G t ∧ xT G r.2 ∧ va_F (xAn G sz) st t
/-- the contract of a caller that catches: it answers r.1, memory r.2 is behind it, one cell may be new -/
def xWMet (G : XG) (l : Launch) (M : XD) (hh : List (Nat × Nat × Nat × Nat)) (d : Nat) (av : List Value) (m : XM) (r : Int32 × XM) : Prop := ∀ sz, Met l M.1 (xwsW M hh) (xroomX d) (xPx G av m sz) (xQW G r sz) 1 6 (xAn G sz)
abbrev xQY (G : XG) (X : XX) (sz : Nat) : Int32 × XM → State → Prop := fun z => MQ X.2.2.2.2.2.1 (xQW G z sz) X.2.2.2.2.1 X.2.2.1 1 6 (xAn G sz)
def xFY (G : XG) (X : XX) (sz : Nat) (hh : List (Nat × Nat × Nat × Nat)) : Prop := X.2.2.1.heap.size = sz ∧ xZ (xAn G sz) X.2.2.1 ∧ X.2.2.2.2.2.2.2.exceptionTable.toList = tableOf hh
theorem xWMet_of {G : XG} {l : Launch} {M : XD} {hh : List (Nat × Nat × Nat × Nat)} {d : Nat} {av : List Value} {m : XM} {t : Option (Int32 × XM)} (hy : plainName M.1.cls = true) (hn : xN G) (hT : xT G m) (hav : (lg_sl av).length ≤ M.2.2.1)
    (h : ∀ (X : XX) (sz : Nat), xFY G X sz hh → xF (xEx G d sz) G X M → xJ (xEx G d sz) (xQY G X sz) G l X M 0 (lv_args 0 av) [] m t) : ∀ z, t = some z → xWMet G l M hh d av m z := by
  intro z hz sz
  refine va_MetW (cc := M.2.1) (maxL := M.2.2.1) (ret := M.2.2.2.1) (hh := hh) hy rfl ?_
  intro p e s mid args below meth c s₁ B hml hv
  have htb := vx_table (x := M.1) B (atoms_spec (ws := xwsW M hh) B.pre _ List.mem_cons_self)
  obtain ⟨rfl, hsz, hP, hK, hSt, hZ⟩ := hv
  have hl := lv_entry av (n := M.2.2.1) hav
  rw [lg_entry_eq]
  exact h (p, e, s, mid, av.toArray, below, meth, c) sz ⟨hsz, hZ, htb⟩ ⟨B.exec, B.bytes, B.returns, hml, findClass_of_methodNamed B.named, fun w hw => atoms_spec (ws := xwsW M hh) B.pre w (List.mem_cons_of_mem _ hw), B.notSynchronized, hK, hn, hSt, fun i hi => Or.inl ⟨i, hi, rfl⟩, Nat.zero_le _, Nat.zero_le _⟩ z hz s.heap [] _ hP va_S.rf hT hl
/-- what is thrown is caught by its class; else on -/
def xct {β : Type} (o : Option (String × XM)) (f : String → XM → Option β) (t : Option β) : Option β := match o with
  | some z => f z.1 z.2
  | none => t
section XCA
variable {G : XG} {l : Launch} {X : XX} {M M' : XD} {pc d sz : Nat} {lv : List (Nat × Value)} {st stk : List Value} {m : XM} {d' n ci idx b : Nat} {As : List Value} {hh : List (Nat × Nat × Nat × Nat)}
theorem xj_retW {c0 s0 : Nat} (F : xF (xroomX d, xAn G sz, c0, s0) G X M) {v : Int32} (hc : c0 ≤ 1) (hs : s0 ≤ 6) (hr : M.2.2.2.1 = some .int) (hd : decode M.2.1 pc = .ok (.ireturn, 1)) : xJ (xroomX d, xAn G sz, c0, s0) (xQY G X sz) G l X M pc lv [.int v] m (some (v, m)) := by
  intro z hz H locs ls hP hS hT hl
  cases hz
  refine W.widen (k := 1) (n := 6) hc hs ?_
  exact W.iret F.1 F.2.1 (F.2.2.1.trans hr) (fun t ht hW => ⟨rfl, by rw [ht]; exact hP, va_K.moved hW.alike F.2.2.2.2.2.2.2.1, hT, hS.F ht⟩) hS.2.2 hd F.2.2.2.2.2.2.1
theorem xF_more {R : Room} {A : Nat → Prop} (F : xF (R, A, 0, 0) G X M) (h1 : 1 ≤ R.cells) (h2 : 6 ≤ R.slots) : xF (R, A, 1, 6) G X M := by
  obtain ⟨f1, f2, f3, f4, f5, f6, f7, f8, f9, f10, f11, -⟩ := F
  exact ⟨f1, f2, f3, f4, f5, f6, f7, f8, f9, f10, f11, h1, h2⟩
/-- the handler x of the table takes an exception of class E -/
def xhnd (own : String) (hh : List (Nat × Nat × Nat × Nat)) (pc : Nat) (E : String) (h : Nat) : Prop := ∃ (pre : List ExceptionTableEntry) (x : ExceptionTableEntry) (suf : List ExceptionTableEntry), tableOf hh = pre ++ x :: suf ∧ (∀ z ∈ pre, z.catchType ≠ 0 ∧ E = xIA ∧ Cond.classLink own z.catchType xNS ∈ xB) ∧ covers x pc = true ∧ x.catchType ≠ 0 ∧ Cond.classLink own x.catchType E ∈ xB ∧ Cond.castable E E ∈ xno ∧ x.handlerPc = h
theorem xj_catch (F : xF (xEx G d sz) G X M) (FY : xFY G X sz hh) {o : Option (String × XM)} {f : String → XM → Option (Int32 × XM)} {t : Option (Int32 × XM)} {lv2 : List (Nat × Value)} (hb : isa G b ci) (hl : xmv M.1.cls idx M' n ci) (hn : As.length = n) (hs : stk = As.reverse ++ .ref (xad G b) :: st) (hW : (st.map fun v => v.category).sum ≤ 8) (hd' : d' + 1 ≤ d) (hd : decode M.2.1 pc = .ok (.invokevirtual idx, 3)) (hM : xT G m → ∀ z, o = some z → xXMet G l M' d' (.ref (xad G b) :: As) m z)
    (kx : ∀ (E : String) (m1 : XM), (∀ z, f E m1 ≠ some z) ∨ ∃ h, xhnd M.1.cls hh pc E h ∧ ∀ q : Nat, xJ (xroomX d, xAn G sz, 1, 6) (xQY G X sz) G l X M h lv [.ref q] m1 (f E m1))
    (k : xJ (xEx G d sz) (xQY G X sz) G l X M pc lv stk m t) : xJ (xEx G d sz) (xQY G X sz) G l X M pc lv stk m (xct o f t) := by
  intro z hz
  cases ho : o with
  | none => rw [ho] at hz; exact k z hz
  | some z0 =>
    rw [ho] at hz
    have hz : f z0.1 z0.2 = some z := hz
    rcases kx z0.1 z0.2 with hno | ⟨hpc, hx, kk⟩
    · exact absurd hz (hno z)
    intro H locs ls hP hS hT hl0
    obtain ⟨h1, h2, h3, h4, T, N, h5⟩ := hl
    obtain ⟨hsz, hZ, htab⟩ := FY
    have hK := F.2.2.2.2.2.2.2.1
    have hq := xget m hb.1
    rw [xc_obj hb.2 h4] at hq
    have hMet := hM hT z0 ho H.size
    obtain ⟨q1, q2, q3, q4, q5⟩ := h1
    have cb : CallB (xroomX d) X.2.2.1 X.2.2.2.2.1 M.1.cls idx M'.1 M'.2.1 M'.2.2.1 M'.2.2.2.1 (xws M') (xroomX d') 1 6 n := by
      refine callB_of n F.2.2.2.2.2.1 (xgood q2) rfl rfl rfl (F.2.2.2.2.2.1 _ q3) (F.2.2.2.2.2.1 _ q1) q4 ⟨hd', ?_⟩
      show 8 + (M'.2.2.1 + 11) + 48 * d' ≤ 48 * d
      omega
    have hAn : ∀ q, xAn G H.size q → xAn G sz q := fun q hq => hq.elim Or.inl (fun h => Or.inr (Nat.le_trans (by rw [← hsz]; exact hS.1) h))
    have hrun := vx_runV (g := F0 X.2.2.2.1 pc ls stk) (C := M'.1.cls) (b := xad G b) (As := As) (rest := st) (l := l) (below := X.2.2.2.2.2.1) (meth := X.2.2.2.2.2.2.1) (e := X.2.1) (locs := locs) (cells := 0) (slots := 0) (H := H) ⟨F.1, F.2.1, F.2.2.2.1, F.2.2.2.2.1, F.2.2.2.2.2.1⟩ hMet ⟨cb, F.2.2.2.2.2.1 _ h2, F.2.2.2.2.2.1 _ h3⟩ ⟨fun a U g mk q => ⟨q.1, q.2.1, q.2.2.1, va_K.moved (u := U) (U := U.calling g mk a) (Vm.Alike.refl U.vm) q.2.2.2.1, xSt_same (u := U) (U := U.calling g mk a) rfl rfl q.2.2.2.2.1, xZ_same (u := U) (U := U.calling g mk a) rfl rfl q.2.2.2.2.2⟩, va_recv hK hP (ci := ci) (q0 := b) h5 hq, fun U hU hWU => ⟨rfl, by rw [hU], by rw [hU]; exact hP, va_K.moved hWU.alike hK, xSt_in hAn (xSt_go hWU (fun a h1 h2 => by rw [hU]; exact hS.2.1 a h1 h2) (xFs F)), xZ_in hAn (xZ_go hWU (fun a h1 h2 => by rw [hU]; exact hS.2.1 a h1 h2) hZ)⟩⟩ rfl hn hl0.1 hs (by exact Nat.le_trans (Nat.le_of_eq (Nat.zero_add _)) hW) hd ⟨Nat.le_refl _, Nat.le_refl _⟩
    intro T0 hT0 Xs
    rcases hrun T0 hT0 Xs with ⟨v, st₀, t', T', L, h0, X', hL, e1, e2, hq9, stp⟩ | ⟨q, st₀, t', T', L, E9, ce, h0, X', hL, e1, e2, ⟨hE, hP1, hK1, hT1, hz1, hkk⟩, hce, hcv, hcl, stp⟩
    · exact hq9.elim
    · rw [h0] at hz1 hkk
      subst hE
      have hS1 : va_S (xAn G sz) X.2.2.1.heap T'.heap (locs ++ L) := ⟨Nat.le_trans hS.1 (by rw [e1]; exact hz1), fun x hx1 hx2 => by rw [e1, hkk x (Nat.lt_of_lt_of_le hx1 hS.1) (fun h => hx2 (hAn x h))]; exact hS.2.1 x hx1 hx2, fun z hz => by
        rcases List.mem_append.mp hz with h | h
        · exact hS.2.2 z h
        · exact hAn _ (hL z h)⟩
      obtain ⟨pre, x, suf, g1, g2, g3, g4, g5, g6, g7⟩ := hx
      have hkx : vx_W X.1 l X.2.1 (xroomX d) X.2.2.1 X.2.2.2.1 X.2.2.2.2.1 X.2.2.2.2.2.1 X.2.2.2.2.2.2.1 X.2.2.2.2.2.2.2 T'.heap (locs ++ L) 1 6 (xQY G X sz z) (F0 X.2.2.2.1 pc ls st) q := by
        refine vx_catch F.2.2.2.2.1 pre x suf (htab.trans g1) (fun z hz => ?_) g3 g4 (F.2.2.2.2.2.1 _ g5) (va_any (xno_on _ g6) (hZ.2.2.2.2.2 _ g6)) (by rw [e1]; exact hce) hcv hcl ?_
        · obtain ⟨a1, a2, a3⟩ := g2 z hz
          refine Or.inr ⟨a1, xNS, F.2.2.2.2.2.1 _ a3, ?_⟩
          rw [a2]
          exact hZ.2.2.2.2.1
        · rw [g7]
          exact kk q z hz T'.heap (locs ++ L) ls (by rw [e1]; exact hP1) hS1 hT1 hl0
      obtain ⟨t2, a1, b1⟩ := hkx T' rfl X'
      exact ⟨t2, stp.trans a1, b1⟩
end XCA
theorem xsplit0 (hh : List (Nat × Nat × Nat × Nat)) {a : ExceptionTableEntry} {l : List ExceptionTableEntry} (h : tableOf hh = a :: l) : tableOf hh = [] ++ a :: l := h
theorem xsplit1 (hh : List (Nat × Nat × Nat × Nat)) {a b : ExceptionTableEntry} {l : List ExceptionTableEntry} (h : tableOf hh = a :: b :: l) : tableOf hh = [a] ++ b :: l := h
