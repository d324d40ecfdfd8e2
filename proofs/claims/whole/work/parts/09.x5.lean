/-! ===== x: calls ===== -/
def xml (own : String) (idx : Nat) (M' : XD) (n : Nat) : Prop := Cond.methodLink own idx M'.1 ∈ xB ∧ xcd M' ∈ xB ∧ Cond.initialized M'.1.cls ∈ xB ∧ (M'.1.cls ≠ "java/lang/invoke/MethodHandle" ∧ M'.1.cls ≠ "java/lang/invoke/VarHandle" ∧ (parseMethodDescriptor M'.1.desc).map (fun d => d.parameters.length) = some n) ∧ M'.2.2.1 ≤ 29
def xmv (own : String) (idx : Nat) (M' : XD) (n ci : Nat) : Prop := xml own idx M' n ∧ Cond.instanceMethod M'.1 ∈ xB ∧ Cond.selects M'.1.cls M'.1 M'.1 ∈ xB ∧ ci < 10 ∧ ∃ (T : u_T) (N : Nat), vwCl[ci]? = some (M'.1.cls, T, N)
def xms (own : String) (idx : Nat) (M' : XD) (n : Nat) : Prop := xml own idx M' n ∧ Cond.static M'.1 ∈ xB
def xmt (own : String) (idx : Nat) (M' : XD) (n : Nat) : Prop := xml own idx M' n ∧ Cond.instanceMethod M'.1 ∈ xB ∧ Cond.selects M'.1.cls M'.1 M'.1 ∈ xB ∧ M'.1.cls = "java/lang/String"
/-- a callee of depth d' has room here -/
def xfits (E : XE) (d' : Nat) : Prop := d' + 1 ≤ E.1.frames ∧ 48 * (d' + 1) ≤ E.1.locals
theorem xfit {G : XG} {d d' : Nat} (h : d' + 1 ≤ d) : xfits (xE G d) d' := ⟨h, by show 48 * (d' + 1) ≤ 48 * d; omega⟩
theorem xPc_blind {G : XG} {av : List Value} {m : XM} : FrameBlind (xPc G av m) := fun a U g mk q => ⟨q.1, q.2.1, va_K.moved (u := U) (U := U.calling g mk a) (Vm.Alike.refl U.vm) q.2.2.1, xSt_same (u := U) (U := U.calling g mk a) rfl rfl q.2.2.2⟩
section XC
variable {α : Type} {E : XE} {Q : α → State → Prop} {G : XG} {l : Launch} {X : XX} {M M' : XD} {pc : Nat} {lv lv' : List (Nat × Value)} {st stk : List Value} {m : XM} {t : Option α} {d' n ci idx b : Nat} {As : List Value}
theorem xcallB (F : xF E G X M) (hl : xml M.1.cls idx M' n) (hd' : xfits E d') : CallB E.1 X.2.2.1 X.2.2.2.2.1 M.1.cls idx M'.1 M'.2.1 M'.2.2.1 M'.2.2.2.1 (xws M') (xroom d') 0 0 n := by
  obtain ⟨h1, h2, h3, h4, h5⟩ := hl
  refine callB_of n F.2.2.2.2.2.1 (xgood h2) rfl rfl rfl (F.2.2.2.2.2.1 _ h3) (F.2.2.2.2.2.1 _ h1) h4 ⟨hd'.1, ?_⟩
  have := hd'.2
  show 8 + (M'.2.2.1 + 11) + 48 * d' ≤ E.1.locals
  omega
theorem xrun_go {A : Nat → Prop} {cells slots : Nat} {p : Program} {e : Env} {R : Room} {s : State} {mid : MethodId} {args : Array Value} {below : List Frame} {meth : Method} {c : Code} {H : Heap} {locs : List Loc} {ls : Array Slot} {Q : State → Prop} {r : XR} {a : Array Value}
    (hr : va_Run p l e R s mid args below meth c H locs cells slots 0 0 (F0 mid pc ls stk) st (xQc G M' r a) (xA G)) (hS : va_S A s.heap H locs) (hA : ∀ i, i < G.2.2.1 → A (xad G i))
    (k : (∀ b, r.2.2 = some b → isa G b M'.2.2.2.2) → ∀ (H1 : Heap) (locs1 : List Loc), va_P G.1.1 vwCl (xw G r.2.1) H1 → va_S A s.heap H1 locs1 → xT G r.2.1 → W p l e R s mid args below meth c H1 locs1 cells slots Q (F0 mid (pc + 3) ls (r.1.toList ++ st))) : W p l e R s mid args below meth c H locs cells slots Q (F0 mid pc ls stk) := by
  intro T hT Xs
  obtain ⟨v, st₀, t, T', L, h0, X', hL, e1, e2, ⟨hv, hty, hp, hk, hT2, hz, hkk⟩, stp⟩ := hr T hT Xs
  cases hv
  rw [h0] at hz hkk
  obtain ⟨t2, a1, b1⟩ := k hty T'.heap (locs ++ L) (by rw [e1]; exact hp) ⟨Nat.le_trans hS.1 (by rw [e1]; exact hz), fun q h1 h2 => by rw [e1, hkk q (Nat.lt_of_lt_of_le h1 hS.1) (fun ⟨i, hi, he⟩ => h2 (by rw [he]; exact hA i hi))]; exact hS.2.1 q h1 h2, fun q hq => by
      rcases List.mem_append.mp hq with h | h
      · exact hS.2.2 q h
      · obtain ⟨i, hi, he⟩ := hL q h
        rw [he]
        exact hA i hi⟩ hT2 T' rfl X'
  exact ⟨t2, stp t2 a1, b1⟩
theorem xj_callV0 (F : xF E G X M) {r : XR} {z : α} (hb : isa G b ci) (hl : xmv M.1.cls idx M' n ci) (hn : As.length = n) (hs : stk = As.reverse ++ .ref (xad G b) :: st) (hW : (st.map fun v => v.category).sum ≤ 8) (hd' : xfits E d') (hd : decode M.2.1 pc = .ok (.invokevirtual idx, 3)) (hM : xT G m → xMet G l M' d' (.ref (xad G b) :: As) m r) (c : (∀ b, r.2.2 = some b → isa G b M'.2.2.2.2) → xGo E (Q z) G l X M (pc + 3) lv (r.1.toList ++ st) r.2.1) : xGo E (Q z) G l X M pc lv stk m := by
  intro H locs ls hP hS hT hl0
  have hroom := xFr F
  obtain ⟨h1, h2, h3, h4, T, N, h5⟩ := hl
  have hK := F.2.2.2.2.2.2.2.1
  have hq := xget m hb.1
  rw [xc_obj hb.2 h4] at hq
  refine xrun_go (va_runV (C := M'.1.cls) (b := xad G b) (As := As) (rest := st) ⟨F.1, F.2.1, F.2.2.2.1, F.2.2.2.2.1, F.2.2.2.2.2.1⟩ (hM hT) ⟨xcallB F h1 hd', F.2.2.2.2.2.1 _ h2, F.2.2.2.2.2.1 _ h3⟩ ⟨xPc_blind, va_recv hK hP (ci := ci) (q0 := b) h5 hq, fun U hU hWU => ⟨rfl, by rw [hU]; exact hP, va_K.moved hWU.alike hK, xSt_in (fun q ⟨i, hi, he⟩ => by rw [he]; exact xFA F i hi) (xSt_go hWU (fun a h1 h2 => by rw [hU]; exact hS.2.1 a h1 h2) (xFs F))⟩⟩ rfl hn hl0.1 hs (by exact Nat.le_trans (Nat.le_of_eq (Nat.zero_add _)) hW) hd hroom) hS (xFA F) (fun hty H1 locs1 hP1 hS1 hT1 => c hty H1 locs1 ls hP1 hS1 hT1 hl0)
theorem xj_callS0 (F : xF E G X M) {r : XR} {z : α} (hl : xms M.1.cls idx M' n) (hn : As.length = n) (hs : stk = As.reverse ++ st) (hW : (st.map fun v => v.category).sum ≤ 8) (hd' : xfits E d') (hd : decode M.2.1 pc = .ok (.invokestatic idx, 3)) (hM : xT G m → xMet G l M' d' As m r) (c : (∀ b, r.2.2 = some b → isa G b M'.2.2.2.2) → xGo E (Q z) G l X M (pc + 3) lv (r.1.toList ++ st) r.2.1) : xGo E (Q z) G l X M pc lv stk m := by
  intro H locs ls hP hS hT hl0
  have hroom := xFr F
  obtain ⟨h1, h2⟩ := hl
  have hK := F.2.2.2.2.2.2.2.1
  refine xrun_go (va_runS (As := As) (rest := st) ⟨F.1, F.2.1, F.2.2.2.1, F.2.2.2.2.1, F.2.2.2.2.2.1⟩ (hM hT) ⟨xcallB F h1 hd', F.2.2.2.2.2.1 _ h2⟩ ⟨xPc_blind, fun U hU hWU => ⟨rfl, by rw [hU]; exact hP, va_K.moved hWU.alike hK, xSt_in (fun q ⟨i, hi, he⟩ => by rw [he]; exact xFA F i hi) (xSt_go hWU (fun a h1 h2 => by rw [hU]; exact hS.2.1 a h1 h2) (xFs F))⟩⟩ rfl hn hl0.1 hs (by exact Nat.le_trans (Nat.le_of_eq (Nat.zero_add _)) hW) hd hroom) hS (xFA F) (fun hty H1 locs1 hP1 hS1 hT1 => c hty H1 locs1 ls hP1 hS1 hT1 hl0)
theorem xj_callVI (F : xF E G X M) {o : Option (Int32 × XM)} {κ : Int32 → XM → Option α} (hb : isa G b ci) (hl : xmv M.1.cls idx M' n ci) (hn : As.length = n) (hs : stk = As.reverse ++ .ref (xad G b) :: st) (hW : (st.map fun v => v.category).sum ≤ 8) (hd' : xfits E d') (hd : decode M.2.1 pc = .ok (.invokevirtual idx, 3)) (hM : xT G m → ∀ z, o = some z → xMet G l M' d' (.ref (xad G b) :: As) m (xrI z)) (c : ∀ (r : Int32) (m' : XM), xJ E Q G l X M (pc + 3) lv (.int r :: st) m' (κ r m')) : xJ E Q G l X M pc lv stk m (xca o κ) := by
  intro z hz
  cases ho : o with
  | none => rw [ho] at hz; cases hz
  | some r0 =>
    rw [ho] at hz
    exact xj_callV0 F hb hl hn hs hW hd' hd (fun hT => hM hT r0 ho) (fun _ => c r0.1 r0.2 z hz)
theorem xj_callVL (F : xF E G X M) {o : Option (Int64 × XM)} {κ : Int64 → XM → Option α} (hb : isa G b ci) (hl : xmv M.1.cls idx M' n ci) (hn : As.length = n) (hs : stk = As.reverse ++ .ref (xad G b) :: st) (hW : (st.map fun v => v.category).sum ≤ 8) (hd' : xfits E d') (hd : decode M.2.1 pc = .ok (.invokevirtual idx, 3)) (hM : xT G m → ∀ z, o = some z → xMet G l M' d' (.ref (xad G b) :: As) m (xrL z)) (c : ∀ (r : Int64) (m' : XM), xJ E Q G l X M (pc + 3) lv (.long r :: st) m' (κ r m')) : xJ E Q G l X M pc lv stk m (xca o κ) := by
  intro z hz
  cases ho : o with
  | none => rw [ho] at hz; cases hz
  | some r0 =>
    rw [ho] at hz
    exact xj_callV0 F hb hl hn hs hW hd' hd (fun hT => hM hT r0 ho) (fun _ => c r0.1 r0.2 z hz)
theorem xj_callVR (F : xF E G X M) {o : Option (Nat × XM)} {κ : Nat → XM → Option α} (hb : isa G b ci) (hl : xmv M.1.cls idx M' n ci) (hn : As.length = n) (hs : stk = As.reverse ++ .ref (xad G b) :: st) (hW : (st.map fun v => v.category).sum ≤ 8) (hd' : xfits E d') (hd : decode M.2.1 pc = .ok (.invokevirtual idx, 3)) (hM : xT G m → ∀ z, o = some z → xMet G l M' d' (.ref (xad G b) :: As) m (xrR G z)) (c : ∀ (r : Nat) (m' : XM), isa G r M'.2.2.2.2 → xJ E Q G l X M (pc + 3) lv (.ref (xad G r) :: st) m' (κ r m')) : xJ E Q G l X M pc lv stk m (xca o κ) := by
  intro z hz H locs ls hP hS hT hl0
  cases ho : o with
  | none => rw [ho] at hz; cases hz
  | some r0 =>
    rw [ho] at hz
    exact xj_callV0 F hb hl hn hs hW hd' hd (fun hT => hM hT r0 ho) (fun hty => c r0.1 r0.2 (hty _ rfl) z hz) H locs ls hP hS hT hl0
theorem xj_callVV (F : xF E G X M) {o : Option XM} {κ : XM → Option α} (hb : isa G b ci) (hl : xmv M.1.cls idx M' n ci) (hn : As.length = n) (hs : stk = As.reverse ++ .ref (xad G b) :: st) (hW : (st.map fun v => v.category).sum ≤ 8) (hd' : xfits E d') (hd : decode M.2.1 pc = .ok (.invokevirtual idx, 3)) (hM : xT G m → ∀ z, o = some z → xMet G l M' d' (.ref (xad G b) :: As) m (xrV z)) (c : ∀ (m' : XM), xJ E Q G l X M (pc + 3) lv st m' (κ m')) : xJ E Q G l X M pc lv stk m (xcv o κ) := by
  intro z hz
  cases ho : o with
  | none => rw [ho] at hz; cases hz
  | some r0 =>
    rw [ho] at hz
    exact xj_callV0 F hb hl hn hs hW hd' hd (fun hT => hM hT r0 ho) (fun _ => c r0 z hz)
theorem xj_callSI (F : xF E G X M) {o : Option (Int32 × XM)} {κ : Int32 → XM → Option α} (hl : xms M.1.cls idx M' n) (hn : As.length = n) (hs : stk = As.reverse ++ st) (hW : (st.map fun v => v.category).sum ≤ 8) (hd' : xfits E d') (hd : decode M.2.1 pc = .ok (.invokestatic idx, 3)) (hM : xT G m → ∀ z, o = some z → xMet G l M' d' As m (xrI z)) (c : ∀ (r : Int32) (m' : XM), xJ E Q G l X M (pc + 3) lv (.int r :: st) m' (κ r m')) : xJ E Q G l X M pc lv stk m (xca o κ) := by
  intro z hz
  cases ho : o with
  | none => rw [ho] at hz; cases hz
  | some r0 =>
    rw [ho] at hz
    exact xj_callS0 F hl hn hs hW hd' hd (fun hT => hM hT r0 ho) (fun _ => c r0.1 r0.2 z hz)
theorem xj_callSL (F : xF E G X M) {o : Option (Int64 × XM)} {κ : Int64 → XM → Option α} (hl : xms M.1.cls idx M' n) (hn : As.length = n) (hs : stk = As.reverse ++ st) (hW : (st.map fun v => v.category).sum ≤ 8) (hd' : xfits E d') (hd : decode M.2.1 pc = .ok (.invokestatic idx, 3)) (hM : xT G m → ∀ z, o = some z → xMet G l M' d' As m (xrL z)) (c : ∀ (r : Int64) (m' : XM), xJ E Q G l X M (pc + 3) lv (.long r :: st) m' (κ r m')) : xJ E Q G l X M pc lv stk m (xca o κ) := by
  intro z hz
  cases ho : o with
  | none => rw [ho] at hz; cases hz
  | some r0 =>
    rw [ho] at hz
    exact xj_callS0 F hl hn hs hW hd' hd (fun hT => hM hT r0 ho) (fun _ => c r0.1 r0.2 z hz)
theorem xj_callSR (F : xF E G X M) {o : Option (Nat × XM)} {κ : Nat → XM → Option α} (hl : xms M.1.cls idx M' n) (hn : As.length = n) (hs : stk = As.reverse ++ st) (hW : (st.map fun v => v.category).sum ≤ 8) (hd' : xfits E d') (hd : decode M.2.1 pc = .ok (.invokestatic idx, 3)) (hM : xT G m → ∀ z, o = some z → xMet G l M' d' As m (xrR G z)) (c : ∀ (r : Nat) (m' : XM), isa G r M'.2.2.2.2 → xJ E Q G l X M (pc + 3) lv (.ref (xad G r) :: st) m' (κ r m')) : xJ E Q G l X M pc lv stk m (xca o κ) := by
  intro z hz H locs ls hP hS hT hl0
  cases ho : o with
  | none => rw [ho] at hz; cases hz
  | some r0 =>
    rw [ho] at hz
    exact xj_callS0 F hl hn hs hW hd' hd (fun hT => hM hT r0 ho) (fun hty => c r0.1 r0.2 (hty _ rfl) z hz) H locs ls hP hS hT hl0
theorem xj_callSV (F : xF E G X M) {o : Option XM} {κ : XM → Option α} (hl : xms M.1.cls idx M' n) (hn : As.length = n) (hs : stk = As.reverse ++ st) (hW : (st.map fun v => v.category).sum ≤ 8) (hd' : xfits E d') (hd : decode M.2.1 pc = .ok (.invokestatic idx, 3)) (hM : xT G m → ∀ z, o = some z → xMet G l M' d' As m (xrV z)) (c : ∀ (m' : XM), xJ E Q G l X M (pc + 3) lv st m' (κ m')) : xJ E Q G l X M pc lv stk m (xcv o κ) := by
  intro z hz
  cases ho : o with
  | none => rw [ho] at hz; cases hz
  | some r0 =>
    rw [ho] at hz
    exact xj_callS0 F hl hn hs hW hd' hd (fun hT => hM hT r0 ho) (fun _ => c r0 z hz)
end XC
theorem xvR {P : XR → Prop} {o : Option (Int32 × XM)} (h : ∀ z, o = some z → P (xrV z.2)) : ∀ z, o.map Prod.snd = some z → P (xrV z) := by
  intro z hz
  cases ho : o with
  | none => rw [ho] at hz; cases hz
  | some r0 =>
    rw [ho] at hz
    cases hz
    exact h r0 ho
theorem xvW {P : XR → Prop} {o : Option XM} (h : ∀ z, o = some z → P (xrV z)) : ∀ z, o.map (fun m => ((0 : Int32), m)) = some z → P (xrV z.2) := by
  intro z hz
  cases ho : o with
  | none => rw [ho] at hz; cases hz
  | some r0 =>
    rw [ho] at hz
    cases hz
    exact h r0 ho
