/-! ===== x: literals ===== -/
def xsb {β : Type} (t : Nat) (i : Int32) (κ : Int32 → Option β) : Option β := if xin i (xslen.getD t 0) then κ ((xsbyt.getD t []).getD i.toNatClampNeg 0) else none
section XS
variable {α : Type} {E : XE} {Q : α → State → Prop} {G : XG} {l : Launch} {X : XX} {M M' : XD} {pc : Nat} {lv lv' : List (Nat × Value)} {st stk : List Value} {m : XM} {t : Option α} {d' n idx i : Nat} {As : List Value}
theorem xj_ldcS (F : xF E G X M) {tx : String} (hq : (M.1.cls, idx, tx, i) ∈ xstrs) (hd : decode M.2.1 pc = .ok (.ldc idx, 2)) (k : xJ E Q G l X M (pc + 2) lv (.ref (G.1.2.1 i) :: st) m t) : xJ E Q G l X M pc lv st m t := fun z hz H locs ls hP hS hT hl => va_ldcS F.1 F.2.1 F.2.2.2.2.1 ((xFs F).2.1 _ hq) hd (k z hz H locs ls hP hS hT hl)
theorem xj_ldcwS (F : xF E G X M) {tx : String} (hq : (M.1.cls, idx, tx, i) ∈ xstrs) (hd : decode M.2.1 pc = .ok (.ldc_w idx, 3)) (k : xJ E Q G l X M (pc + 3) lv (.ref (G.1.2.1 i) :: st) m t) : xJ E Q G l X M pc lv st m t := by
  intro z hz H locs ls hP hS hT hl T hTh Xs
  obtain ⟨t2, a1, b1⟩ := k z hz H locs ls hP hS hT hl T hTh Xs
  have hZ := (xFs F).2.1 _ hq
  exact ⟨t2, Xs.ldcStringW F.1 F.2.2.2.2.1 (text := tx) (a := G.1.2.1 i) hZ.1 hZ.2 (g := F0 X.2.2.2.1 pc ls st) rfl (by rw [F.2.1]; exact hd) t2 a1, b1⟩
theorem xj_getsC (F : xF E G X M) (hl : Cond.fieldLink M.1.cls idx "java/lang/String" "COMPACT_STRINGS" "Z" ∈ xB) (hd : decode M.2.1 pc = .ok (.getstatic idx, 3)) (k : xJ E Q G l X M (pc + 3) lv (.int 1 :: st) m t) : xJ E Q G l X M pc lv st m t := fun z hz H locs ls hP hS hT hl0 => va_gets F.1 F.2.1 (xFs F).2.2.1 hS F.2.2.2.2.1 (F.2.2.2.2.2.1 _ hl) (fun _ h9 => h9) hd (k z hz H locs ls hP hS hT hl0)
theorem xj_getsQ (F : xF E G X M) (hl : Cond.fieldLink M.1.cls idx "jdk/internal/util/Preconditions" "SIOOBE_FORMATTER" "Ljava/util/function/BiFunction;" ∈ xB) (hd : decode M.2.1 pc = .ok (.getstatic idx, 3)) (k : ∀ v : Value, v.category = 1 → xJ E Q G l X M (pc + 3) lv (v :: st) m t) : xJ E Q G l X M pc lv st m t := by
  intro z hz H locs ls hP hS hT hl0
  rcases (xFs F).2.2.2.1 with h | ⟨q, h⟩
  · exact va_gets F.1 F.2.1 h hS F.2.2.2.2.1 (F.2.2.2.2.2.1 _ hl) (fun _ h9 => h9) hd (k _ rfl z hz H locs ls hP hS hT hl0)
  · exact va_gets F.1 F.2.1 h hS F.2.2.2.2.1 (F.2.2.2.2.2.1 _ hl) (fun _ h9 => h9) hd (k _ rfl z hz H locs ls hP hS hT hl0)
theorem xj_scod (F : xF E G X M) (hi : i < 16) (hl : Cond.fieldLink M.1.cls idx "java/lang/String" "coder" "B" ∈ xB) (hd : decode M.2.1 pc = .ok (.getfield idx, 3)) (k : xJ E Q G l X M (pc + 3) lv (.int 0 :: st) m t) : xJ E Q G l X M pc lv (.ref (G.1.2.1 i) :: st) m t := fun z hz H locs ls hP hS hT hl0 => vk_getf F.1 F.2.1 ((xFs F).1 i hi).2.1 hS F.2.2.2.2.1 (F.2.2.2.2.2.1 _ hl) (fun _ h9 => h9) hd (k z hz H locs ls hP hS hT hl0)
theorem xj_sval (F : xF E G X M) (hi : i < 16) (hl : Cond.fieldLink M.1.cls idx "java/lang/String" "value" "[B" ∈ xB) (hd : decode M.2.1 pc = .ok (.getfield idx, 3)) (k : xJ E Q G l X M (pc + 3) lv (.ref (G.1.2.2 i) :: st) m t) : xJ E Q G l X M pc lv (.ref (G.1.2.1 i) :: st) m t := fun z hz H locs ls hP hS hT hl0 => vk_getf F.1 F.2.1 ((xFs F).1 i hi).2.2.1 hS F.2.2.2.2.1 (F.2.2.2.2.2.1 _ hl) (fun _ h9 => h9) hd (k z hz H locs ls hP hS hT hl0)
theorem xj_slen (F : xF E G X M) (hi : i < 16) (hd : decode M.2.1 pc = .ok (.arraylength, 1)) (k : xJ E Q G l X M (pc + 1) lv (.int (Int32.ofNat (xslen.getD i 0)) :: st) m t) : xJ E Q G l X M pc lv (.ref (G.1.2.2 i) :: st) m t := fun z hz H locs ls hP hS hT hl0 => va_tlen F.1 F.2.1 ((xFs F).1 i hi).2.2.2 hS rfl hd (k z hz H locs ls hP hS hT hl0)
theorem xj_sbyt (F : xF E G X M) (hi : i < 16) {j : Int32} {κ : Int32 → Option α} (hd : decode M.2.1 pc = .ok (.baload, 1)) (k : ∀ v, xJ E Q G l X M (pc + 1) lv (.int v :: st) m (κ v)) : xJ E Q G l X M pc lv (.int j :: .ref (G.1.2.2 i) :: st) m (xsb i j κ) := by
  intro z hz H locs ls hP hS hT hl0
  by_cases h : xin j (xslen.getD i 0)
  · rw [xsb, if_pos h] at hz
    exact va_tb F.1 F.2.1 ((xFs F).1 i hi).2.2.2 hS (xin_vp h) rfl hd (k _ z hz H locs ls hP hS hT hl0)
  · rw [xsb, if_neg h] at hz; cases hz
theorem xj_i2c (F : xF E G X M) {x : Int32} {κ : Int32 → Option α} (hd : decode M.2.1 pc = .ok (.i2c, 1)) (k : ∀ v, xJ E Q G l X M (pc + 1) lv (.int v :: st) m (κ v)) : xJ E Q G l X M pc lv (.int x :: st) m (xv ((x.toUInt32 % 65536).toInt32) κ) := fun z hz H locs ls hP hS hT hl => lv_i2c F.1 F.2.1 hd rfl (k _ z hz H locs ls hP hS hT hl)
theorem xj_retN {d : Nat} (F : xF (xE G d) G X M) {v : Int32} {ty : FieldType} (hr : M.2.2.2.1 = some ty) (hn : narrow ty (.int v) = .int v) (hd : decode M.2.1 pc = .ok (.ireturn, 1)) : xJ (xE G d) (xQ xrI G X M) G l X M pc lv [.int v] m (some (v, m)) := by
  intro z hz H locs ls hP hS hT hl
  cases hz
  exact W.zret F.1 F.2.1 (F.2.2.1.trans hr) hn (fun t ht hW => ⟨rfl, (fun _ h => by cases h), by rw [ht]; exact hP, va_K.moved hW.alike F.2.2.2.2.2.2.2.1, hT, hS.F ht⟩) hS.2.2 hd F.2.2.2.2.2.2.1
theorem xj_callT0 (F : xF E G X M) {r : XR} {z : α} (hi : i < 16) (hl : xmt M.1.cls idx M' n) (hn : As.length = n) (hs : stk = As.reverse ++ .ref (G.1.2.1 i) :: st) (hW : (st.map fun v => v.category).sum ≤ 8) (hd' : xfits E d') (hd : decode M.2.1 pc = .ok (.invokevirtual idx, 3)) (hM : xT G m → xMet G l M' d' (.ref (G.1.2.1 i) :: As) m r) (c : (∀ b, r.2.2 = some b → isa G b M'.2.2.2.2) → xGo E (Q z) G l X M (pc + 3) lv (r.1.toList ++ st) r.2.1) : xGo E (Q z) G l X M pc lv stk m := by
  intro H locs ls hP hS hT hl0
  obtain ⟨h1, h2, h3, h4⟩ := hl
  have hK := F.2.2.2.2.2.2.2.1
  have hO := ((xFs F).1 i hi).1.kept hS.2.1
  refine xrun_go (va_runV (C := M'.1.cls) (b := G.1.2.1 i) (As := As) (rest := st) ⟨F.1, F.2.1, F.2.2.2.1, F.2.2.2.2.1, F.2.2.2.2.2.1⟩ (hM hT) ⟨xcallB F h1 hd', F.2.2.2.2.2.1 _ h2, F.2.2.2.2.2.1 _ h3⟩ ⟨xPc_blind, by rw [h4]; obtain ⟨c, q1, q2, q3, -⟩ := hO; exact ⟨c, q1, by rw [q2], q3⟩, fun U hU hWU => ⟨rfl, by rw [hU]; exact hP, va_K.moved hWU.alike hK, xSt_in (fun q ⟨i, hi, he⟩ => by rw [he]; exact xFA F i hi) (xSt_go hWU (fun a h1 h2 => by rw [hU]; exact hS.2.1 a h1 h2) (xFs F))⟩⟩ rfl hn hl0.1 hs (by exact Nat.le_trans (Nat.le_of_eq (Nat.zero_add _)) hW) hd (xFr F)) hS (xFA F) (fun hty H1 locs1 hP1 hS1 hT1 => c hty H1 locs1 ls hP1 hS1 hT1 hl0)
theorem xj_callTI (F : xF E G X M) {o : Option (Int32 × XM)} {κ : Int32 → XM → Option α} (hi : i < 16) (hl : xmt M.1.cls idx M' n) (hn : As.length = n) (hs : stk = As.reverse ++ .ref (G.1.2.1 i) :: st) (hW : (st.map fun v => v.category).sum ≤ 8) (hd' : xfits E d') (hd : decode M.2.1 pc = .ok (.invokevirtual idx, 3)) (hM : xT G m → ∀ z, o = some z → xMet G l M' d' (.ref (G.1.2.1 i) :: As) m (xrI z)) (c : ∀ (r : Int32) (m' : XM), xJ E Q G l X M (pc + 3) lv (.int r :: st) m' (κ r m')) : xJ E Q G l X M pc lv stk m (xca o κ) := by
  intro z hz
  cases ho : o with
  | none => rw [ho] at hz; cases hz
  | some r0 =>
    rw [ho] at hz
    exact xj_callT0 F hi hl hn hs hW hd' hd (fun hT => hM hT r0 ho) (fun _ => c r0.1 r0.2 z hz)
end XS
theorem ls38 : Cond.fieldLink "java/lang/String" 38 "java/lang/String" "COMPACT_STRINGS" "Z" ∈ xB := q869
theorem ls9 : Cond.fieldLink "java/lang/String" 9 "java/lang/String" "value" "[B" ∈ xB := q1967
theorem ls15 : Cond.fieldLink "java/lang/String" 15 "java/lang/String" "coder" "B" ∈ xB := q1968
theorem ls1053 : Cond.fieldLink "java/lang/String" 1053 "jdk/internal/util/Preconditions" "SIOOBE_FORMATTER" "Ljava/util/function/BiFunction;" ∈ xB := q885
theorem lk335 : xmt "java/lang/String" 335 mJ0_coder_7d493 0 := ⟨⟨q865, q868, q158, by decide +kernel, by decide⟩, q866, q867, rfl⟩
theorem lk492 : xmt "java/lang/String" 492 mJ0_isLatin1_aae02 0 := ⟨⟨q875, q878, q158, by decide +kernel, by decide⟩, q876, q877, rfl⟩
theorem lk495 : xms "java/lang/String" 495 mJ1_charAt_3b067 2 := ⟨⟨q879, q881, q159, by decide +kernel, by decide⟩, q880⟩
theorem lkL9 : xms "java/lang/StringLatin1" 9 mJ0_checkIndex_df160 2 := ⟨⟨q882, q884, q158, by decide +kernel, by decide⟩, q883⟩
theorem lk1059 : xms "java/lang/String" 1059 mJ3_checkIndex_8e157 3 := ⟨⟨q887, q889, q160, by decide +kernel, by decide⟩, q888⟩
set_option maxHeartbeats 4000000 in
set_option maxRecDepth 20000 in
theorem wJ0_coder {G : XG} {l : Launch} {d : Nat} (hn : xN G) {m0 : XM} (hT : xT G m0) {i : Nat} (hi : i < 16) : xMet G l mJ0_coder_7d493 d [.ref (G.1.2.1 i)] m0 (xrI (0, m0)) := by
  refine xMet_of (ρ := xrI) (t := some ((0 : Int32), m0)) (by decide +kernel) hn hT (Nat.le_of_ble_eq_true rfl) (fun X F => ?_) _ rfl
  refine xj_sub (lv' := [(0, .ref (G.1.2.1 i))]) [0] rfl ?_
  refine xj_getsC F ls38 dJ0_coder_7d493_0 ?_
  refine xj_eq (t2 := if (1 : Int32) = 0 then none else some ((0 : Int32), m0)) rfl ?_
  refine xj_if_eq (tgt := 13) F dJ0_coder_7d493_3 (by decide) xj_none ?_
  refine xj_aload_n F 0 dJ0_coder_7d493_6 rfl ?_
  refine xj_scod F hi ls15 dJ0_coder_7d493_7 ?_
  refine xj_goto (tgt := 14) F dJ0_coder_7d493_10 (by decide) ?_
  exact xj_retN F rfl rfl dJ0_coder_7d493_14
set_option maxHeartbeats 4000000 in
set_option maxRecDepth 20000 in
theorem wJ0_isLatin1 {G : XG} {l : Launch} {d : Nat} (hn : xN G) {m0 : XM} (hT : xT G m0) {i : Nat} (hi : i < 16) : xMet G l mJ0_isLatin1_aae02 d [.ref (G.1.2.1 i)] m0 (xrI (1, m0)) := by
  refine xMet_of (ρ := xrI) (t := some ((1 : Int32), m0)) (by decide +kernel) hn hT (Nat.le_of_ble_eq_true rfl) (fun X F => ?_) _ rfl
  refine xj_sub (lv' := [(0, .ref (G.1.2.1 i))]) [0] rfl ?_
  refine xj_getsC F ls38 dJ0_isLatin1_aae02_0 ?_
  refine xj_eq (t2 := if (1 : Int32) = 0 then none else some ((1 : Int32), m0)) rfl ?_
  refine xj_if_eq (tgt := 17) F dJ0_isLatin1_aae02_3 (by decide) xj_none ?_
  refine xj_aload_n F 0 dJ0_isLatin1_aae02_6 rfl ?_
  refine xj_scod F hi ls15 dJ0_isLatin1_aae02_7 ?_
  refine xj_eq (t2 := if (0 : Int32) = 0 then some ((1 : Int32), m0) else none) rfl ?_
  refine xj_if_ne (tgt := 17) F dJ0_isLatin1_aae02_10 (by decide) xj_none ?_
  refine xj_iconst F 1 dJ0_isLatin1_aae02_13 (by decide) ?_
  refine xj_goto (tgt := 18) F dJ0_isLatin1_aae02_14 (by decide) ?_
  exact xj_retN F rfl rfl dJ0_isLatin1_aae02_18
def fJ0_length_8abf5 (_N : Nat → Nat) (a0 : Nat) (m0 : XM) : Option (Int32 × XM) := some (Int32.ofNat (xslen.getD a0 0), m0)
theorem xslen_sh {i : Nat} (hi : i < 16) : Int32.ofNat (xslen.getD i 0) >>> ((0 : Int32) &&& 31) = Int32.ofNat (xslen.getD i 0) := by
  have h : ∀ i, i < 16 → Int32.ofNat (xslen.getD i 0) >>> ((0 : Int32) &&& 31) = Int32.ofNat (xslen.getD i 0) := by decide +kernel
  exact h i hi
set_option maxHeartbeats 4000000 in
set_option maxRecDepth 20000 in
theorem wJ0_length_8abf5 {G : XG} {l : Launch} {d : Nat} (hn : xN G) (hdep : 1 ≤ d) {m0 : XM} (hT : xT G m0) {a0 : Nat} (ha0 : a0 < 16) : ∀ z, fJ0_length_8abf5 (xln G) a0 m0 = some z → xMet G l mJ0_length_8abf5 d [.ref (G.1.2.1 a0)] m0 (xrI z) := by
  refine xMet_of (by decide +kernel) hn hT (Nat.le_of_ble_eq_true rfl) (fun X F => ?_)
  refine xj_sub (lv' := [(0, .ref (G.1.2.1 a0))]) [0] rfl ?_
  refine xj_eq (t2 := xca (some ((0 : Int32), m0)) (fun v m => xv (Int32.ofNat (xslen.getD a0 0) >>> ((0 : Int32) &&& 31)) fun w => some (w, m))) (by show some _ = some _; rw [xslen_sh ha0]) ?_
  refine xj_aload_n F 0 dJ0_length_8abf5_0 rfl ?_
  refine xj_sval F ha0 ls9 dJ0_length_8abf5_1 ?_
  refine xj_slen F ha0 dJ0_length_8abf5_4 ?_
  refine xj_aload_n F 0 dJ0_length_8abf5_5 rfl ?_
  intro z hz
  refine xj_callT0 (i := a0) (As := []) (d' := 0) (r := xrI (0, m0)) F ha0 lk335 rfl rfl (Nat.le_of_ble_eq_true rfl) (xfit hdep) dJ0_length_8abf5_6 (fun hT => wJ0_coder (xnd F) hT ha0) (fun _ => ?_)
  refine xj_ishr (κ := fun w => some (w, m0)) F dJ0_length_8abf5_9 (fun v => ?_) z hz
  exact xj_ret F rfl dJ0_length_8abf5_10
set_option maxHeartbeats 4000000 in
set_option maxRecDepth 20000 in
theorem wJ3_checkIndex {G : XG} {l : Launch} {d : Nat} (hn : xN G) {m0 : XM} (hT : xT G m0) {x n : Int32} {v : Value} (hv : v.category = 1) : ∀ z, (if x < 0 then none else if x < n then some (x, m0) else none) = some z → xMet G l mJ3_checkIndex_8e157 d [.int x, .int n, v] m0 (xrI z) := by
  have hv2 : ¬ v.category = 2 := by omega
  refine xMet_of (by decide +kernel) hn hT (by cases v <;> first | exact Nat.le_of_ble_eq_true rfl | cases hv) (fun X F => ?_)
  refine xj_sub (lv' := [(0, .int x), (1, .int n)]) [0, 1] rfl ?_
  refine xj_iload_n F 0 dJ3_checkIndex_8e157_0 rfl ?_
  refine xj_if_lt (tgt := 9) F dJ3_checkIndex_8e157_1 (by decide) xj_none ?_
  refine xj_iload_n F 0 dJ3_checkIndex_8e157_4 rfl ?_
  refine xj_iload_n F 1 dJ3_checkIndex_8e157_5 rfl ?_
  refine xj_icmp_lt (tgt := 16) F dJ3_checkIndex_8e157_6 (by decide) ?_ xj_none
  refine xj_iload_n F 0 dJ3_checkIndex_8e157_16 rfl ?_
  exact xj_ret F rfl dJ3_checkIndex_8e157_17
set_option maxHeartbeats 4000000 in
set_option maxRecDepth 20000 in
theorem wJ0_checkIndex {G : XG} {l : Launch} {d : Nat} (hn : xN G) (hdep : 1 ≤ d) {m0 : XM} (hT : xT G m0) {x n : Int32} : ∀ z, (if x < 0 then none else if x < n then some m0 else none) = some z → xMet G l mJ0_checkIndex_df160 d [.int x, .int n] m0 (xrV z) := by
  refine xMet_of (by decide +kernel) hn hT (Nat.le_of_ble_eq_true rfl) (fun X F => ?_)
  refine xj_sub (lv' := [(0, .int x), (1, .int n)]) [0, 1] rfl ?_
  refine xj_eq (t2 := xca (if x < 0 then none else if x < n then some (x, m0) else none) (fun _ m => some m)) (by by_cases h1 : x < 0 <;> by_cases h2 : x < n <;> simp [h1, h2, xca]) ?_
  refine xj_iload_n F 0 dJ0_checkIndex_df160_0 rfl ?_
  refine xj_iload_n F 1 dJ0_checkIndex_df160_1 rfl ?_
  refine xj_getsQ F ls1053 dJ0_checkIndex_df160_2 (fun v hv => ?_)
  refine xj_callSI (As := [.int x, .int n, v]) (d' := 0) F lk1059 rfl rfl (Nat.le_of_ble_eq_true rfl) (xfit hdep) dJ0_checkIndex_df160_5 (fun hT z hz => wJ3_checkIndex (xnd F) hT hv z hz) (fun r m1 => ?_)
  refine xj_pop F dJ0_checkIndex_df160_8 rfl ?_
  exact xj_retV F rfl dJ0_checkIndex_df160_9
def xchar (t : Nat) (k : Int32) : Int32 := (((xsbyt.getD t []).getD k.toNatClampNeg 0 &&& 255).toUInt32 % 65536).toInt32
theorem xchar_n (x : Int32) : narrow .char (.int ((x.toUInt32 % 65536).toInt32)) = .int ((x.toUInt32 % 65536).toInt32) := by
  show Value.int _ = Value.int _
  congr 1
  rw [UInt32.toUInt32_toInt32]
  congr 1
  apply UInt32.toNat_inj.mp
  simp
theorem xslen_lt {t : Nat} {k : Int32} (ht : t < 16) (h : xin k (xslen.getD t 0)) : ¬ k < 0 ∧ k < Int32.ofNat (xslen.getD t 0) := by
  have h1 : ∀ i, i < 16 → xslen.getD i 0 < 100 := by decide +kernel
  have h2 := h1 t ht
  refine ⟨Int32.not_lt.mpr h.1, ?_⟩
  rw [Int32.lt_iff_toInt_lt]
  have h3 : (0 : Int) ≤ k.toInt := by have := Int32.le_iff_toInt_le.mp h.1; simpa using this
  have h4 : (Int32.ofNat (xslen.getD t 0)).toInt = (xslen.getD t 0 : Int) := Int32.toInt_ofNat_of_lt (by omega)
  rw [h4]
  have h5 := h.2
  unfold Int32.toNatClampNeg at h5
  omega
set_option maxHeartbeats 4000000 in
set_option maxRecDepth 20000 in
theorem wJ1_charAt {G : XG} {l : Launch} {d : Nat} (hn : xN G) (hdep : 2 ≤ d) {m0 : XM} (hT : xT G m0) {t : Nat} (ht : t < 16) {k : Int32} : ∀ z, (if xin k (xslen.getD t 0) then some (xchar t k, m0) else none) = some z → xMet G l mJ1_charAt_3b067 d [.ref (G.1.2.2 t), .int k] m0 (xrI z) := by
  refine xMet_of (by decide +kernel) hn hT (Nat.le_of_ble_eq_true rfl) (fun X F => ?_)
  refine xj_sub (lv' := [(0, .ref (G.1.2.2 t)), (1, .int k)]) [0, 1] rfl ?_
  refine xj_eq (t2 := xcv (if k < 0 then none else if k < Int32.ofNat (xslen.getD t 0) then some m0 else none) (fun m => xsb t k fun v => xv (v &&& 255) fun w => xv ((w.toUInt32 % 65536).toInt32) fun y => if narrow .char (.int y) = .int y then some (y, m) else none)) ?_ ?_
  · by_cases h : xin k (xslen.getD t 0)
    · have h2 := xslen_lt ht h
      rw [if_pos h, if_neg h2.1, if_pos h2.2]
      simp only [xcv, xsb, if_pos h, xv]
      rw [if_pos (xchar_n _)]
      rfl
    · rw [if_neg h]
      by_cases h1 : k < 0
      · rw [if_pos h1]; rfl
      · rw [if_neg h1]
        by_cases h2 : k < Int32.ofNat (xslen.getD t 0)
        · rw [if_pos h2]; simp only [xcv, xsb, if_neg h]
        · rw [if_neg h2]; rfl
  refine xj_iload_n F 1 dJ1_charAt_3b067_0 rfl ?_
  refine xj_aload_n F 0 dJ1_charAt_3b067_1 rfl ?_
  refine xj_slen F ht dJ1_charAt_3b067_2 ?_
  refine xj_callSV (As := [.int k, .int (Int32.ofNat (xslen.getD t 0))]) (d' := 1) F lkL9 rfl rfl (Nat.le_of_ble_eq_true rfl) (xfit hdep) dJ1_charAt_3b067_3 (fun hT z hz => wJ0_checkIndex (xnd F) (Nat.le_refl _) hT z hz) (fun m1 => ?_)
  refine xj_aload_n F 0 dJ1_charAt_3b067_6 rfl ?_
  refine xj_iload_n F 1 dJ1_charAt_3b067_7 rfl ?_
  refine xj_sbyt F ht dJ1_charAt_3b067_8 (fun v => ?_)
  refine xj_sipush F 255 dJ1_charAt_3b067_9 (by decide) ?_
  refine xj_iand F dJ1_charAt_3b067_12 (fun w => ?_)
  refine xj_i2c F dJ1_charAt_3b067_13 (fun y => ?_)
  refine xj_ite (fun h => ?_) (fun h => xj_none)
  exact xj_retN F rfl h dJ1_charAt_3b067_14
def fJ0_charAt_5068e (_N : Nat → Nat) (a0 : Nat) (a1 : Int32) (m0 : XM) : Option (Int32 × XM) := if xin a1 (xslen.getD a0 0) then some (xchar a0 a1, m0) else none
set_option maxHeartbeats 4000000 in
set_option maxRecDepth 20000 in
theorem wJ0_charAt_5068e {G : XG} {l : Launch} {d : Nat} (hn : xN G) (hdep : 3 ≤ d) {m0 : XM} (hT : xT G m0) {a0 : Nat} {a1 : Int32} (ha0 : a0 < 16) : ∀ z, fJ0_charAt_5068e (xln G) a0 a1 m0 = some z → xMet G l mJ0_charAt_5068e d [.ref (G.1.2.1 a0), .int a1] m0 (xrI z) := by
  refine xMet_of (by decide +kernel) hn hT (Nat.le_of_ble_eq_true rfl) (fun X F => ?_)
  refine xj_sub (lv' := [(0, .ref (G.1.2.1 a0)), (1, .int a1)]) [0, 1] rfl ?_
  refine xj_eq (t2 := if (1 : Int32) = 0 then none else xca (if xin a1 (xslen.getD a0 0) then some (xchar a0 a1, m0) else none) (fun v m => if narrow .char (.int v) = .int v then some (v, m) else none)) ?_ ?_
  · rw [if_neg (by decide), fJ0_charAt_5068e]
    by_cases h : xin a1 (xslen.getD a0 0)
    · rw [if_pos h]
      simp only [xca]
      rw [if_pos (show narrow .char (.int (xchar a0 a1)) = .int (xchar a0 a1) from xchar_n _)]
    · rw [if_neg h]; rfl
  refine xj_aload_n F 0 dJ0_charAt_5068e_0 rfl ?_
  intro z hz
  refine xj_callT0 (i := a0) (As := []) (d' := 0) (r := xrI (1, m0)) F ha0 lk492 rfl rfl (Nat.le_of_ble_eq_true rfl) (xfit (Nat.le_trans (Nat.le_of_ble_eq_true rfl) hdep)) dJ0_charAt_5068e_1 (fun hT => wJ0_isLatin1 (xnd F) hT ha0) (fun _ => ?_)
  refine xj_if_eq (tgt := 16) F dJ0_charAt_5068e_4 (by decide) xj_none ?_ z hz
  refine xj_aload_n F 0 dJ0_charAt_5068e_7 rfl ?_
  refine xj_sval F ha0 ls9 dJ0_charAt_5068e_8 ?_
  refine xj_iload_n F 1 dJ0_charAt_5068e_11 rfl ?_
  refine xj_callSI (As := [.ref (G.1.2.2 a0), .int a1]) (d' := 2) F lk495 rfl rfl (Nat.le_of_ble_eq_true rfl) (xfit hdep) dJ0_charAt_5068e_12 (fun hT z hz => wJ1_charAt (xnd F) (Nat.le_refl _) hT ha0 z hz) (fun v m1 => ?_)
  refine xj_ite (fun h => ?_) (fun h => xj_none)
  exact xj_retN F rfl h dJ0_charAt_5068e_15
