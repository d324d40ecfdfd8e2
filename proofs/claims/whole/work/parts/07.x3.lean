/-! ===== x: rows, an instruction each ===== -/
def xrem (x y : Int32) : Int32 := x - x / y * y
section XR
variable {α : Type} {E : XE} {Q : α → State → Prop} {G : XG} {l : Launch} {X : XX} {M : XD} {pc : Nat} {lv lv' : List (Nat × Value)} {st : List Value} {m : XM} {t : Option α}
theorem xj_none : xJ E Q G l X M pc lv st m none := fun _ h => by cases h
theorem xj_eq {t2 : Option α} (h : t = t2) (k : xJ E Q G l X M pc lv st m t2) : xJ E Q G l X M pc lv st m t := h ▸ k
theorem xj_sub (ks : List Nat) (h : lv_pick lv ks = lv') (k : xJ E Q G l X M pc lv' st m t) : xJ E Q G l X M pc lv st m t := fun z hz H locs ls hP hS hT hl => k z hz H locs ls hP hS hT (lv_sub hl ks h)
theorem xj_iconst (F : xF E G X M) {n : Int} (v : Int32) (hd : decode M.2.1 pc = .ok (.iconst n, 1)) (hv : Int32.ofInt n = v) (k : xJ E Q G l X M (pc + 1) lv (.int v :: st) m t) : xJ E Q G l X M pc lv st m t := fun z hz H locs ls hP hS hT hl => lv_iconst F.1 F.2.1 hd hv (k z hz H locs ls hP hS hT hl)
theorem xj_bipush (F : xF E G X M) {n : Int} (v : Int32) (hd : decode M.2.1 pc = .ok (.bipush n, 2)) (hv : (Int8.ofInt n).toInt32 = v) (k : xJ E Q G l X M (pc + 2) lv (.int v :: st) m t) : xJ E Q G l X M pc lv st m t := fun z hz H locs ls hP hS hT hl => lv_bipush F.1 F.2.1 hd hv (k z hz H locs ls hP hS hT hl)
theorem xj_sipush (F : xF E G X M) {n : Int} (v : Int32) (hd : decode M.2.1 pc = .ok (.sipush n, 3)) (hv : (Int16.ofInt n).toInt32 = v) (k : xJ E Q G l X M (pc + 3) lv (.int v :: st) m t) : xJ E Q G l X M pc lv st m t := fun z hz H locs ls hP hS hT hl => lv_sipush F.1 F.2.1 hd hv (k z hz H locs ls hP hS hT hl)
theorem xj_lconst (F : xF E G X M) {n : Fin 2} (v : Int64) (hd : decode M.2.1 pc = .ok (.lconst n, 1)) (hv : Int64.ofNat (n : Nat) = v) (k : xJ E Q G l X M (pc + 1) lv (.long v :: st) m t) : xJ E Q G l X M pc lv st m t := fun z hz H locs ls hP hS hT hl => lv_lconst F.1 F.2.1 hd hv (k z hz H locs ls hP hS hT hl)
theorem xj_ldc (F : xF E G X M) {index : Nat} {v : Int32} (hc : Cond.constant M.1.cls index v ∈ xB) (hd : decode M.2.1 pc = .ok (.ldc index, 2)) (k : xJ E Q G l X M (pc + 2) lv (.int v :: st) m t) : xJ E Q G l X M pc lv st m t := fun z hz H locs ls hP hS hT hl => lv_ldc F.1 F.2.1 F.2.2.2.2.1 (F.2.2.2.2.2.1 _ hc) hd (k z hz H locs ls hP hS hT hl)
theorem xj_ldcw (F : xF E G X M) {index : Nat} {v : Int32} (hc : Cond.constant M.1.cls index v ∈ xB) (hd : decode M.2.1 pc = .ok (.ldc_w index, 3)) (k : xJ E Q G l X M (pc + 3) lv (.int v :: st) m t) : xJ E Q G l X M pc lv st m t := fun z hz H locs ls hP hS hT hl => lv_ldcw F.1 F.2.1 F.2.2.2.2.1 (F.2.2.2.2.2.1 _ hc) hd (k z hz H locs ls hP hS hT hl)
theorem xj_ldc2 (F : xF E G X M) {index : Nat} {v : Int64} (hc : Cond.constantLong M.1.cls index v ∈ xB) (hd : decode M.2.1 pc = .ok (.ldc2_w index, 3)) (k : xJ E Q G l X M (pc + 3) lv (.long v :: st) m t) : xJ E Q G l X M pc lv st m t := fun z hz H locs ls hP hS hT hl => lv_ldc2 F.1 F.2.1 F.2.2.2.2.1 (F.2.2.2.2.2.1 _ hc) hd (k z hz H locs ls hP hS hT hl)
-- locals: k the place in the list
theorem xj_iload_n (F : xF E G X M) {n : Fin 4} {x : Int32} (k : Nat) (hd : decode M.2.1 pc = .ok (.iload_n n, 1)) (h : lv[k]? = some ((n : Nat), .int x)) (c : xJ E Q G l X M (pc + 1) lv (.int x :: st) m t) : xJ E Q G l X M pc lv st m t := fun z hz H locs ls hP hS hT hl => lv_iload_n F.1 F.2.1 hd rfl (lv_at hl k h) (c z hz H locs ls hP hS hT hl)
theorem xj_iload (F : xF E G X M) {i : Nat} {x : Int32} (k : Nat) (hd : decode M.2.1 pc = .ok (.iload i, 2)) (h : lv[k]? = some (i, .int x)) (c : xJ E Q G l X M (pc + 2) lv (.int x :: st) m t) : xJ E Q G l X M pc lv st m t := fun z hz H locs ls hP hS hT hl => lv_iload F.1 F.2.1 hd (lv_at hl k h) (c z hz H locs ls hP hS hT hl)
theorem xj_lload_n (F : xF E G X M) {n : Fin 4} {x : Int64} (k : Nat) (hd : decode M.2.1 pc = .ok (.lload_n n, 1)) (h : lv[k]? = some ((n : Nat), .long x)) (c : xJ E Q G l X M (pc + 1) lv (.long x :: st) m t) : xJ E Q G l X M pc lv st m t := fun z hz H locs ls hP hS hT hl => lv_lload_n F.1 F.2.1 hd rfl (lv_at hl k h) (c z hz H locs ls hP hS hT hl)
theorem xj_lload (F : xF E G X M) {i : Nat} {x : Int64} (k : Nat) (hd : decode M.2.1 pc = .ok (.lload i, 2)) (h : lv[k]? = some (i, .long x)) (c : xJ E Q G l X M (pc + 2) lv (.long x :: st) m t) : xJ E Q G l X M pc lv st m t := fun z hz H locs ls hP hS hT hl => lv_lload F.1 F.2.1 hd (lv_at hl k h) (c z hz H locs ls hP hS hT hl)
theorem xj_aload_n (F : xF E G X M) {n : Fin 4} {x : Nat} (k : Nat) (hd : decode M.2.1 pc = .ok (.aload_n n, 1)) (h : lv[k]? = some ((n : Nat), .ref x)) (c : xJ E Q G l X M (pc + 1) lv (.ref x :: st) m t) : xJ E Q G l X M pc lv st m t := fun z hz H locs ls hP hS hT hl => lv_aload_n F.1 F.2.1 hd rfl (lv_at hl k h) (c z hz H locs ls hP hS hT hl)
theorem xj_aload (F : xF E G X M) {i : Nat} {x : Nat} (k : Nat) (hd : decode M.2.1 pc = .ok (.aload i, 2)) (h : lv[k]? = some (i, .ref x)) (c : xJ E Q G l X M (pc + 2) lv (.ref x :: st) m t) : xJ E Q G l X M pc lv st m t := fun z hz H locs ls hP hS hT hl => lv_aload F.1 F.2.1 hd (lv_at hl k h) (c z hz H locs ls hP hS hT hl)
theorem xj_istore_n (F : xF E G X M) {n : Fin 4} {x : Int32} (hd : decode M.2.1 pc = .ok (.istore_n n, 1)) (hn : (n : Nat) < M.2.2.1) (hl' : ((n : Nat), Value.int x) :: lv.filter (fun q => !(q.1 == (n : Nat)) && !(q.1 + 1 == (n : Nat) && q.2.category == 2)) = lv') (c : xJ E Q G l X M (pc + 1) lv' st m t) : xJ E Q G l X M pc lv (.int x :: st) m t := fun z hz H locs ls hP hS hT hl => lv_istore_n F.1 F.2.1 hd rfl hl hn hl' (fun ls hl => c z hz H locs ls hP hS hT hl)
theorem xj_istore (F : xF E G X M) {i : Nat} {x : Int32} (hd : decode M.2.1 pc = .ok (.istore i, 2)) (hn : i < M.2.2.1) (hl' : (i, Value.int x) :: lv.filter (fun q => !(q.1 == i) && !(q.1 + 1 == i && q.2.category == 2)) = lv') (c : xJ E Q G l X M (pc + 2) lv' st m t) : xJ E Q G l X M pc lv (.int x :: st) m t := fun z hz H locs ls hP hS hT hl => lv_istore F.1 F.2.1 hd hl hn hl' (fun ls hl => c z hz H locs ls hP hS hT hl)
theorem xj_lstore_n (F : xF E G X M) {n : Fin 4} {x : Int64} (hd : decode M.2.1 pc = .ok (.lstore_n n, 1)) (hn : (n : Nat) + 1 < M.2.2.1) (hl' : ((n : Nat), Value.long x) :: lv.filter (fun q => !(q.1 == (n : Nat)) && (!(q.1 == (n : Nat) + 1) && !(q.1 + 1 == (n : Nat) && q.2.category == 2))) = lv') (c : xJ E Q G l X M (pc + 1) lv' st m t) : xJ E Q G l X M pc lv (.long x :: st) m t := fun z hz H locs ls hP hS hT hl => lv_lstore_n F.1 F.2.1 hd rfl hl hn hl' (fun ls hl => c z hz H locs ls hP hS hT hl)
theorem xj_lstore (F : xF E G X M) {i : Nat} {x : Int64} (hd : decode M.2.1 pc = .ok (.lstore i, 2)) (hn : i + 1 < M.2.2.1) (hl' : (i, Value.long x) :: lv.filter (fun q => !(q.1 == i) && (!(q.1 == i + 1) && !(q.1 + 1 == i && q.2.category == 2))) = lv') (c : xJ E Q G l X M (pc + 2) lv' st m t) : xJ E Q G l X M pc lv (.long x :: st) m t := fun z hz H locs ls hP hS hT hl => lv_lstore F.1 F.2.1 hd hl hn hl' (fun ls hl => c z hz H locs ls hP hS hT hl)
theorem xj_astore_n (F : xF E G X M) {n : Fin 4} {x : Nat} (hd : decode M.2.1 pc = .ok (.astore_n n, 1)) (hn : (n : Nat) < M.2.2.1) (hl' : ((n : Nat), Value.ref x) :: lv.filter (fun q => !(q.1 == (n : Nat)) && !(q.1 + 1 == (n : Nat) && q.2.category == 2)) = lv') (c : xJ E Q G l X M (pc + 1) lv' st m t) : xJ E Q G l X M pc lv (.ref x :: st) m t := fun z hz H locs ls hP hS hT hl => lv_astore_n F.1 F.2.1 hd rfl hl hn hl' (fun ls hl => c z hz H locs ls hP hS hT hl)
theorem xj_astore (F : xF E G X M) {i : Nat} {x : Nat} (hd : decode M.2.1 pc = .ok (.astore i, 2)) (hn : i < M.2.2.1) (hl' : (i, Value.ref x) :: lv.filter (fun q => !(q.1 == i) && !(q.1 + 1 == i && q.2.category == 2)) = lv') (c : xJ E Q G l X M (pc + 2) lv' st m t) : xJ E Q G l X M pc lv (.ref x :: st) m t := fun z hz H locs ls hP hS hT hl => lv_astore F.1 F.2.1 hd hl hn hl' (fun ls hl => c z hz H locs ls hP hS hT hl)
theorem xj_iinc (F : xF E G X M) {i : Nat} {n : Int} {x : Int32} {κ : Int32 → Option α} (k : Nat) (c0 : Int32) (f : Int32 → List (Nat × Value)) (hd : decode M.2.1 pc = .ok (.iinc i n, 3)) (h : lv[k]? = some (i, .int x)) (hc : Int32.ofInt n = c0) (hn : i < M.2.2.1) (hl' : ∀ v : Int32, (i, Value.int v) :: lv.filter (fun q => !(q.1 == i) && !(q.1 + 1 == i && q.2.category == 2)) = f v) (c : ∀ v : Int32, xJ E Q G l X M (pc + 3) (f v) st m (κ v)) : xJ E Q G l X M pc lv st m (xv (x + c0) κ) := fun z hz H locs ls hP hS hT hl => lv_iinc F.1 F.2.1 hd hl h (by rw [hc]) hn (hl' (x + c0)) (fun ls hl => c (x + c0) z hz H locs ls hP hS hT hl)
-- arithmetic
theorem xj_iadd (F : xF E G X M) {x y : Int32} {κ : Int32 → Option α} (hd : decode M.2.1 pc = .ok (.iadd, 1)) (k : ∀ v, xJ E Q G l X M (pc + 1) lv (.int v :: st) m (κ v)) : xJ E Q G l X M pc lv (.int y :: .int x :: st) m (xv (x + y) κ) := fun z hz H locs ls hP hS hT hl => lv_iadd F.1 F.2.1 hd (k _ z hz H locs ls hP hS hT hl)
theorem xj_isub (F : xF E G X M) {x y : Int32} {κ : Int32 → Option α} (hd : decode M.2.1 pc = .ok (.isub, 1)) (k : ∀ v, xJ E Q G l X M (pc + 1) lv (.int v :: st) m (κ v)) : xJ E Q G l X M pc lv (.int y :: .int x :: st) m (xv (x - y) κ) := fun z hz H locs ls hP hS hT hl => lv_isub F.1 F.2.1 hd (k _ z hz H locs ls hP hS hT hl)
theorem xj_imul (F : xF E G X M) {x y : Int32} {κ : Int32 → Option α} (hd : decode M.2.1 pc = .ok (.imul, 1)) (k : ∀ v, xJ E Q G l X M (pc + 1) lv (.int v :: st) m (κ v)) : xJ E Q G l X M pc lv (.int y :: .int x :: st) m (xv (x * y) κ) := fun z hz H locs ls hP hS hT hl => lv_imul F.1 F.2.1 hd (k _ z hz H locs ls hP hS hT hl)
theorem xj_iand (F : xF E G X M) {x y : Int32} {κ : Int32 → Option α} (hd : decode M.2.1 pc = .ok (.iand, 1)) (k : ∀ v, xJ E Q G l X M (pc + 1) lv (.int v :: st) m (κ v)) : xJ E Q G l X M pc lv (.int y :: .int x :: st) m (xv (x &&& y) κ) := fun z hz H locs ls hP hS hT hl => lv_iand F.1 F.2.1 hd (k _ z hz H locs ls hP hS hT hl)
theorem xj_ior (F : xF E G X M) {x y : Int32} {κ : Int32 → Option α} (hd : decode M.2.1 pc = .ok (.ior, 1)) (k : ∀ v, xJ E Q G l X M (pc + 1) lv (.int v :: st) m (κ v)) : xJ E Q G l X M pc lv (.int y :: .int x :: st) m (xv (x ||| y) κ) := fun z hz H locs ls hP hS hT hl => lv_ior F.1 F.2.1 hd (k _ z hz H locs ls hP hS hT hl)
theorem xj_ixor (F : xF E G X M) {x y : Int32} {κ : Int32 → Option α} (hd : decode M.2.1 pc = .ok (.ixor, 1)) (k : ∀ v, xJ E Q G l X M (pc + 1) lv (.int v :: st) m (κ v)) : xJ E Q G l X M pc lv (.int y :: .int x :: st) m (xv (x ^^^ y) κ) := fun z hz H locs ls hP hS hT hl => lv_ixor F.1 F.2.1 hd (k _ z hz H locs ls hP hS hT hl)
theorem xj_ishl (F : xF E G X M) {x y : Int32} {κ : Int32 → Option α} (hd : decode M.2.1 pc = .ok (.ishl, 1)) (k : ∀ v, xJ E Q G l X M (pc + 1) lv (.int v :: st) m (κ v)) : xJ E Q G l X M pc lv (.int y :: .int x :: st) m (xv (x <<< (y &&& 31)) κ) := fun z hz H locs ls hP hS hT hl => lv_ishl F.1 F.2.1 hd (k _ z hz H locs ls hP hS hT hl)
theorem xj_ishr (F : xF E G X M) {x y : Int32} {κ : Int32 → Option α} (hd : decode M.2.1 pc = .ok (.ishr, 1)) (k : ∀ v, xJ E Q G l X M (pc + 1) lv (.int v :: st) m (κ v)) : xJ E Q G l X M pc lv (.int y :: .int x :: st) m (xv (x >>> (y &&& 31)) κ) := fun z hz H locs ls hP hS hT hl => lv_ishr F.1 F.2.1 hd (k _ z hz H locs ls hP hS hT hl)
theorem xj_iushr (F : xF E G X M) {x y : Int32} {κ : Int32 → Option α} (hd : decode M.2.1 pc = .ok (.iushr, 1)) (k : ∀ v, xJ E Q G l X M (pc + 1) lv (.int v :: st) m (κ v)) : xJ E Q G l X M pc lv (.int y :: .int x :: st) m (xv ((x.toUInt32 >>> (y.toUInt32 &&& Int32.toUInt32 31)).toInt32) κ) := fun z hz H locs ls hP hS hT hl => lv_iushr F.1 F.2.1 hd rfl (k _ z hz H locs ls hP hS hT hl)
theorem xj_idiv (F : xF E G X M) {x y : Int32} {κ : Int32 → Option α} (hd : decode M.2.1 pc = .ok (.idiv, 1)) (k : ∀ v, xJ E Q G l X M (pc + 1) lv (.int v :: st) m (κ v)) : xJ E Q G l X M pc lv (.int y :: .int x :: st) m (xdv y (xv (x / y) κ)) := by
  intro z hz H locs ls hP hS hT hl
  by_cases h : y = 0
  · rw [xdv, if_pos h] at hz; cases hz
  · rw [xdv, if_neg h] at hz; exact lv_idiv F.1 F.2.1 hd h (k _ z hz H locs ls hP hS hT hl)
theorem xj_irem (F : xF E G X M) {x y : Int32} {κ : Int32 → Option α} (hd : decode M.2.1 pc = .ok (.irem, 1)) (k : ∀ v, xJ E Q G l X M (pc + 1) lv (.int v :: st) m (κ v)) : xJ E Q G l X M pc lv (.int y :: .int x :: st) m (xdv y (xv (xrem x y) κ)) := by
  intro z hz H locs ls hP hS hT hl
  by_cases h : y = 0
  · rw [xdv, if_pos h] at hz; cases hz
  · rw [xdv, if_neg h] at hz; exact lv_irem F.1 F.2.1 hd h (k _ z hz H locs ls hP hS hT hl)
theorem xj_ladd (F : xF E G X M) {x y : Int64} {κ : Int64 → Option α} (hd : decode M.2.1 pc = .ok (.ladd, 1)) (k : ∀ v, xJ E Q G l X M (pc + 1) lv (.long v :: st) m (κ v)) : xJ E Q G l X M pc lv (.long y :: .long x :: st) m (xv (x + y) κ) := fun z hz H locs ls hP hS hT hl => lv_ladd F.1 F.2.1 hd (k _ z hz H locs ls hP hS hT hl)
theorem xj_lmul (F : xF E G X M) {x y : Int64} {κ : Int64 → Option α} (hd : decode M.2.1 pc = .ok (.lmul, 1)) (k : ∀ v, xJ E Q G l X M (pc + 1) lv (.long v :: st) m (κ v)) : xJ E Q G l X M pc lv (.long y :: .long x :: st) m (xv (x * y) κ) := fun z hz H locs ls hP hS hT hl => lv_lmul F.1 F.2.1 hd (k _ z hz H locs ls hP hS hT hl)
theorem xj_lor (F : xF E G X M) {x y : Int64} {κ : Int64 → Option α} (hd : decode M.2.1 pc = .ok (.lor, 1)) (k : ∀ v, xJ E Q G l X M (pc + 1) lv (.long v :: st) m (κ v)) : xJ E Q G l X M pc lv (.long y :: .long x :: st) m (xv (x ||| y) κ) := fun z hz H locs ls hP hS hT hl => lv_lor F.1 F.2.1 hd (k _ z hz H locs ls hP hS hT hl)
theorem xj_lshl (F : xF E G X M) {x : Int64} {y : Int32} {κ : Int64 → Option α} (hd : decode M.2.1 pc = .ok (.lshl, 1)) (k : ∀ v, xJ E Q G l X M (pc + 1) lv (.long v :: st) m (κ v)) : xJ E Q G l X M pc lv (.int y :: .long x :: st) m (xv (x <<< (y.toInt64 &&& 63)) κ) := fun z hz H locs ls hP hS hT hl => lv_lshl F.1 F.2.1 hd rfl (k _ z hz H locs ls hP hS hT hl)
theorem xj_lshr (F : xF E G X M) {x : Int64} {y : Int32} {κ : Int64 → Option α} (hd : decode M.2.1 pc = .ok (.lshr, 1)) (k : ∀ v, xJ E Q G l X M (pc + 1) lv (.long v :: st) m (κ v)) : xJ E Q G l X M pc lv (.int y :: .long x :: st) m (xv (x >>> (y.toInt64 &&& 63)) κ) := fun z hz H locs ls hP hS hT hl => lv_lshr F.1 F.2.1 hd rfl (k _ z hz H locs ls hP hS hT hl)
theorem xj_i2l (F : xF E G X M) {x : Int32} {κ : Int64 → Option α} (hd : decode M.2.1 pc = .ok (.i2l, 1)) (k : ∀ v, xJ E Q G l X M (pc + 1) lv (.long v :: st) m (κ v)) : xJ E Q G l X M pc lv (.int x :: st) m (xv x.toInt64 κ) := fun z hz H locs ls hP hS hT hl => lv_i2l F.1 F.2.1 hd rfl (k _ z hz H locs ls hP hS hT hl)
theorem xj_l2i (F : xF E G X M) {x : Int64} {κ : Int32 → Option α} (hd : decode M.2.1 pc = .ok (.l2i, 1)) (k : ∀ v, xJ E Q G l X M (pc + 1) lv (.int v :: st) m (κ v)) : xJ E Q G l X M pc lv (.long x :: st) m (xv x.toInt32 κ) := fun z hz H locs ls hP hS hT hl => lv_l2i F.1 F.2.1 hd rfl (k _ z hz H locs ls hP hS hT hl)
theorem xj_lcmp (F : xF E G X M) {x y : Int64} {κ : Int32 → Option α} (hd : decode M.2.1 pc = .ok (.lcmp, 1)) (k : ∀ v, xJ E Q G l X M (pc + 1) lv (.int v :: st) m (κ v)) : xJ E Q G l X M pc lv (.long y :: .long x :: st) m (xv (lg_cmp x y) κ) := fun z hz H locs ls hP hS hT hl => W.lcmp F.1 F.2.1 hd (k _ z hz H locs ls hP hS hT hl)
-- stack
theorem xj_dup (F : xF E G X M) {a : Value} (hd : decode M.2.1 pc = .ok (.dup, 1)) (h : a.category = 1) (k : xJ E Q G l X M (pc + 1) lv (a :: a :: st) m t) : xJ E Q G l X M pc lv (a :: st) m t := fun z hz H locs ls hP hS hT hl => lv_dup F.1 F.2.1 hd h (k z hz H locs ls hP hS hT hl)
theorem xj_pop (F : xF E G X M) {a : Value} (hd : decode M.2.1 pc = .ok (.pop, 1)) (h : a.category = 1) (k : xJ E Q G l X M (pc + 1) lv st m t) : xJ E Q G l X M pc lv (a :: st) m t := fun z hz H locs ls hP hS hT hl => lv_pop F.1 F.2.1 hd h (k z hz H locs ls hP hS hT hl)
theorem xj_dup2 (F : xF E G X M) {a b : Value} (hd : decode M.2.1 pc = .ok (.dup2, 1)) (h : a.category = 1) (h2 : b.category = 1) (k : xJ E Q G l X M (pc + 1) lv (a :: b :: a :: b :: st) m t) : xJ E Q G l X M pc lv (a :: b :: st) m t := fun z hz H locs ls hP hS hT hl => lv_dup2_11 F.1 F.2.1 hd h h2 (k z hz H locs ls hP hS hT hl)
-- branches
theorem xj_goto (F : xF E G X M) {off : Int} {tgt : Nat} (hd : decode M.2.1 pc = .ok (.goto off, 3)) (ht : (pc : Int) + off = (tgt : Int)) (k : xJ E Q G l X M tgt lv st m t) : xJ E Q G l X M pc lv st m t := fun z hz H locs ls hP hS hT hl => lv_goto F.1 F.2.1 hd ht (k z hz H locs ls hP hS hT hl)
theorem xj_if_eq (F : xF E G X M) {x : Int32} {off : Int} {tgt : Nat} {ta tb : Option α} (hd : decode M.2.1 pc = .ok (.ifCond .eq off, 3)) (ht : (pc : Int) + off = (tgt : Int)) (ka : xJ E Q G l X M tgt lv st m ta) (kb : xJ E Q G l X M (pc + 3) lv st m tb) : xJ E Q G l X M pc lv (.int x :: st) m (if x = 0 then ta else tb) := by
  intro z hz H locs ls hP hS hT hl
  refine lv_if_eq F.1 F.2.1 hd ht (fun h => ka z ?_ H locs ls hP hS hT hl) (fun h => kb z ?_ H locs ls hP hS hT hl)
  · rw [if_pos h] at hz; exact hz
  · rw [if_neg h] at hz; exact hz
theorem xj_if_ne (F : xF E G X M) {x : Int32} {off : Int} {tgt : Nat} {ta tb : Option α} (hd : decode M.2.1 pc = .ok (.ifCond .ne off, 3)) (ht : (pc : Int) + off = (tgt : Int)) (ka : xJ E Q G l X M tgt lv st m ta) (kb : xJ E Q G l X M (pc + 3) lv st m tb) : xJ E Q G l X M pc lv (.int x :: st) m (if x = 0 then tb else ta) := by
  intro z hz H locs ls hP hS hT hl
  refine lv_if_ne F.1 F.2.1 hd ht (fun h => ka z ?_ H locs ls hP hS hT hl) (fun h => kb z ?_ H locs ls hP hS hT hl)
  · rw [if_neg h] at hz; exact hz
  · rw [if_pos h] at hz; exact hz
theorem xj_if_lt (F : xF E G X M) {x : Int32} {off : Int} {tgt : Nat} {ta tb : Option α} (hd : decode M.2.1 pc = .ok (.ifCond .lt off, 3)) (ht : (pc : Int) + off = (tgt : Int)) (ka : xJ E Q G l X M tgt lv st m ta) (kb : xJ E Q G l X M (pc + 3) lv st m tb) : xJ E Q G l X M pc lv (.int x :: st) m (if x < 0 then ta else tb) := by
  intro z hz H locs ls hP hS hT hl
  refine lv_if_lt F.1 F.2.1 hd ht (fun h => ka z ?_ H locs ls hP hS hT hl) (fun h => kb z ?_ H locs ls hP hS hT hl)
  · rw [if_pos h] at hz; exact hz
  · rw [if_neg h] at hz; exact hz
theorem xj_if_ge (F : xF E G X M) {x : Int32} {off : Int} {tgt : Nat} {ta tb : Option α} (hd : decode M.2.1 pc = .ok (.ifCond .ge off, 3)) (ht : (pc : Int) + off = (tgt : Int)) (ka : xJ E Q G l X M tgt lv st m ta) (kb : xJ E Q G l X M (pc + 3) lv st m tb) : xJ E Q G l X M pc lv (.int x :: st) m (if 0 ≤ x then ta else tb) := by
  intro z hz H locs ls hP hS hT hl
  refine lv_if_ge F.1 F.2.1 hd ht (fun h => ka z ?_ H locs ls hP hS hT hl) (fun h => kb z ?_ H locs ls hP hS hT hl)
  · rw [if_pos h] at hz; exact hz
  · rw [if_neg h] at hz; exact hz
theorem xj_if_gt (F : xF E G X M) {x : Int32} {off : Int} {tgt : Nat} {ta tb : Option α} (hd : decode M.2.1 pc = .ok (.ifCond .gt off, 3)) (ht : (pc : Int) + off = (tgt : Int)) (ka : xJ E Q G l X M tgt lv st m ta) (kb : xJ E Q G l X M (pc + 3) lv st m tb) : xJ E Q G l X M pc lv (.int x :: st) m (if 0 < x then ta else tb) := by
  intro z hz H locs ls hP hS hT hl
  refine lv_if_gt F.1 F.2.1 hd ht (fun h => ka z ?_ H locs ls hP hS hT hl) (fun h => kb z ?_ H locs ls hP hS hT hl)
  · rw [if_pos h] at hz; exact hz
  · rw [if_neg h] at hz; exact hz
theorem xj_if_le (F : xF E G X M) {x : Int32} {off : Int} {tgt : Nat} {ta tb : Option α} (hd : decode M.2.1 pc = .ok (.ifCond .le off, 3)) (ht : (pc : Int) + off = (tgt : Int)) (ka : xJ E Q G l X M tgt lv st m ta) (kb : xJ E Q G l X M (pc + 3) lv st m tb) : xJ E Q G l X M pc lv (.int x :: st) m (if x ≤ 0 then ta else tb) := by
  intro z hz H locs ls hP hS hT hl
  refine lv_if_le F.1 F.2.1 hd ht (fun h => ka z ?_ H locs ls hP hS hT hl) (fun h => kb z ?_ H locs ls hP hS hT hl)
  · rw [if_pos h] at hz; exact hz
  · rw [if_neg h] at hz; exact hz
theorem xj_icmp_eq (F : xF E G X M) {x y : Int32} {off : Int} {tgt : Nat} {ta tb : Option α} (hd : decode M.2.1 pc = .ok (.if_icmp .eq off, 3)) (ht : (pc : Int) + off = (tgt : Int)) (ka : xJ E Q G l X M tgt lv st m ta) (kb : xJ E Q G l X M (pc + 3) lv st m tb) : xJ E Q G l X M pc lv (.int y :: .int x :: st) m (if x = y then ta else tb) := by
  intro z hz H locs ls hP hS hT hl
  refine lv_icmp_eq F.1 F.2.1 hd ht (fun h => ka z ?_ H locs ls hP hS hT hl) (fun h => kb z ?_ H locs ls hP hS hT hl)
  · rw [if_pos h] at hz; exact hz
  · rw [if_neg h] at hz; exact hz
theorem xj_icmp_ne (F : xF E G X M) {x y : Int32} {off : Int} {tgt : Nat} {ta tb : Option α} (hd : decode M.2.1 pc = .ok (.if_icmp .ne off, 3)) (ht : (pc : Int) + off = (tgt : Int)) (ka : xJ E Q G l X M tgt lv st m ta) (kb : xJ E Q G l X M (pc + 3) lv st m tb) : xJ E Q G l X M pc lv (.int y :: .int x :: st) m (if x = y then tb else ta) := by
  intro z hz H locs ls hP hS hT hl
  refine lv_icmp_ne F.1 F.2.1 hd ht (fun h => ka z ?_ H locs ls hP hS hT hl) (fun h => kb z ?_ H locs ls hP hS hT hl)
  · rw [if_neg h] at hz; exact hz
  · rw [if_pos h] at hz; exact hz
theorem xj_icmp_lt (F : xF E G X M) {x y : Int32} {off : Int} {tgt : Nat} {ta tb : Option α} (hd : decode M.2.1 pc = .ok (.if_icmp .lt off, 3)) (ht : (pc : Int) + off = (tgt : Int)) (ka : xJ E Q G l X M tgt lv st m ta) (kb : xJ E Q G l X M (pc + 3) lv st m tb) : xJ E Q G l X M pc lv (.int y :: .int x :: st) m (if x < y then ta else tb) := by
  intro z hz H locs ls hP hS hT hl
  refine lv_icmp_lt F.1 F.2.1 hd ht (fun h => ka z ?_ H locs ls hP hS hT hl) (fun h => kb z ?_ H locs ls hP hS hT hl)
  · rw [if_pos h] at hz; exact hz
  · rw [if_neg h] at hz; exact hz
theorem xj_icmp_ge (F : xF E G X M) {x y : Int32} {off : Int} {tgt : Nat} {ta tb : Option α} (hd : decode M.2.1 pc = .ok (.if_icmp .ge off, 3)) (ht : (pc : Int) + off = (tgt : Int)) (ka : xJ E Q G l X M tgt lv st m ta) (kb : xJ E Q G l X M (pc + 3) lv st m tb) : xJ E Q G l X M pc lv (.int y :: .int x :: st) m (if y ≤ x then ta else tb) := by
  intro z hz H locs ls hP hS hT hl
  refine lv_icmp_ge F.1 F.2.1 hd ht (fun h => ka z ?_ H locs ls hP hS hT hl) (fun h => kb z ?_ H locs ls hP hS hT hl)
  · rw [if_pos h] at hz; exact hz
  · rw [if_neg h] at hz; exact hz
theorem xj_icmp_gt (F : xF E G X M) {x y : Int32} {off : Int} {tgt : Nat} {ta tb : Option α} (hd : decode M.2.1 pc = .ok (.if_icmp .gt off, 3)) (ht : (pc : Int) + off = (tgt : Int)) (ka : xJ E Q G l X M tgt lv st m ta) (kb : xJ E Q G l X M (pc + 3) lv st m tb) : xJ E Q G l X M pc lv (.int y :: .int x :: st) m (if y < x then ta else tb) := by
  intro z hz H locs ls hP hS hT hl
  refine lv_icmp_gt F.1 F.2.1 hd ht (fun h => ka z ?_ H locs ls hP hS hT hl) (fun h => kb z ?_ H locs ls hP hS hT hl)
  · rw [if_pos h] at hz; exact hz
  · rw [if_neg h] at hz; exact hz
theorem xj_icmp_le (F : xF E G X M) {x y : Int32} {off : Int} {tgt : Nat} {ta tb : Option α} (hd : decode M.2.1 pc = .ok (.if_icmp .le off, 3)) (ht : (pc : Int) + off = (tgt : Int)) (ka : xJ E Q G l X M tgt lv st m ta) (kb : xJ E Q G l X M (pc + 3) lv st m tb) : xJ E Q G l X M pc lv (.int y :: .int x :: st) m (if x ≤ y then ta else tb) := by
  intro z hz H locs ls hP hS hT hl
  refine lv_icmp_le F.1 F.2.1 hd ht (fun h => ka z ?_ H locs ls hP hS hT hl) (fun h => kb z ?_ H locs ls hP hS hT hl)
  · rw [if_pos h] at hz; exact hz
  · rw [if_neg h] at hz; exact hz
end XR
