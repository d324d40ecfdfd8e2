/-! ===== z: small numbers as Int32, rows of memory ===== -/
def zN (n : Nat) : Int32 := Int32.ofNat n
theorem zN_lit (n : Nat) : (no_index (OfNat.ofNat n) : Int32) = zN n := Eq.trans rfl rfl
theorem zv {α β : Type} (x : α) (κ : α → Option β) : xv x κ = κ x := Eq.trans rfl rfl
theorem zN_add (a b : Nat) : zN a + zN b = zN (a + b) := (Int32.ofNat_add a b).symm
theorem zN_mul (a b : Nat) : zN a * zN b = zN (a * b) := (Int32.ofNat_mul a b).symm
theorem zN_sub {a b : Nat} (h : b ≤ a) : zN a - zN b = zN (a - b) := (Int32.ofNat_sub a b h).symm
theorem zN_toInt {a : Nat} (h : a < 2147483648) : (zN a).toInt = (a : Int) := Int32.toInt_ofNat_of_lt h
def zM : Int32 := -1
theorem zneg : -zN 1 = zM := Eq.trans rfl rfl
theorem zm_toInt : zM.toInt = -1 := by decide
theorem zN_lt {a b : Nat} (ha : a < 2147483648) (hb : b < 2147483648) : (zN a < zN b) = (a < b) := by
  rw [Int32.lt_iff_toInt_lt, zN_toInt ha, zN_toInt hb]; exact propext ⟨fun h => by omega, fun h => by omega⟩
theorem zN_le {a b : Nat} (ha : a < 2147483648) (hb : b < 2147483648) : (zN a ≤ zN b) = (a ≤ b) := by
  rw [Int32.le_iff_toInt_le, zN_toInt ha, zN_toInt hb]; exact propext ⟨fun h => by omega, fun h => by omega⟩
theorem zN_eq {a b : Nat} (ha : a < 2147483648) (hb : b < 2147483648) : (zN a = zN b) = (a = b) := by
  rw [← Int32.toInt_inj, zN_toInt ha, zN_toInt hb]; exact propext ⟨fun h => by omega, fun h => by omega⟩
theorem zN_inj {a b : Nat} (ha : a < 2147483648) (hb : b < 2147483648) (h : zN a = zN b) : a = b := by
  rwa [zN_eq ha hb] at h
theorem zN_m {a : Nat} (ha : a < 2147483648) : (zN a = zM) = False := by
  rw [← Int32.toInt_inj, zN_toInt ha, zm_toInt]; exact propext ⟨fun h => by omega, fun h => h.elim⟩
theorem zm_N {a : Nat} (ha : a < 2147483648) : (zM = zN a) = False := by
  rw [← Int32.toInt_inj, zN_toInt ha, zm_toInt]; exact propext ⟨fun h => by omega, fun h => h.elim⟩
theorem zm_lt {a : Nat} (ha : a < 2147483648) : (zM < zN a) = True := by
  rw [Int32.lt_iff_toInt_lt, zN_toInt ha, zm_toInt]; exact propext ⟨fun _ => trivial, fun _ => by omega⟩
theorem zm_le {a : Nat} (ha : a < 2147483648) : (zM ≤ zN a) = True := by
  rw [Int32.le_iff_toInt_le, zN_toInt ha, zm_toInt]; exact propext ⟨fun _ => trivial, fun _ => by omega⟩
theorem zlt_m {a : Nat} (ha : a < 2147483648) : (zN a < zM) = False := by
  rw [Int32.lt_iff_toInt_lt, zN_toInt ha, zm_toInt]; exact propext ⟨fun _ => by omega, fun h => h.elim⟩
theorem zle_m {a : Nat} (ha : a < 2147483648) : (zN a ≤ zM) = False := by
  rw [Int32.le_iff_toInt_le, zN_toInt ha, zm_toInt]; exact propext ⟨fun _ => by omega, fun h => h.elim⟩
theorem zN_dec {a : Nat} (h : 1 ≤ a) : zN a + zM = zN (a - 1) := by
  rw [← zN_sub h]; show zN a + -(1 : Int32) = zN a - 1; rw [Int32.sub_eq_add_neg]
theorem zN_dec0 : zN 0 + zM = zM := by decide
theorem zN_sub01 : zN 0 - zN 1 = zM := by decide
theorem zN_clamp {a : Nat} (h : a < 2147483648) : (zN a).toNatClampNeg = a := Int32.toNatClampNeg_ofNat_of_lt h
theorem zN_in {a n : Nat} (h : a < 2147483648) : xin (zN a) n = (a < n) := by
  unfold xin
  rw [zN_clamp h]
  have : (0 : Int32) ≤ zN a := by show zN 0 ≤ zN a; rw [zN_le (by omega) h]; omega
  exact propext ⟨fun q => q.2, fun q => ⟨this, q⟩⟩
theorem zN_div {a b : Nat} (ha : a < 2147483648) (hb : b < 2147483648) : zN a / zN b = zN (a / b) := (Int32.ofNat_div ha hb).symm
theorem zN_rem {a b : Nat} (ha : a < 2147483648) (hb : b < 2147483648) : xrem (zN a) (zN b) = zN (a % b) := by
  unfold xrem
  rw [zN_div ha hb, zN_mul, zN_sub (Nat.div_mul_le_self a b)]
  congr 1
  have := Nat.div_add_mod a b
  rw [Nat.mul_comm] at this
  omega
theorem zdv {β : Type} {a : Nat} (h1 : 0 < a) (h2 : a < 2147483648) (o : Option β) : xdv (zN a) o = o := by
  unfold xdv
  rw [if_neg]
  show ¬ zN a = zN 0
  rw [zN_eq h2 (by omega)]
  omega
theorem zald {β : Type} {N : Nat → Nat} {m : XM} {a k : Nat} {κ : Int32 → Option β} (h : k < N a) (hk : k < 2147483648) : xald N m a (zN k) κ = κ (gi m a k) := by
  unfold xald
  rw [if_pos (by rw [zN_in hk]; exact h), zN_clamp hk]
theorem zast {β : Type} {N : Nat → Nat} {m : XM} {a k : Nat} {v : Int32} {κ : XM → Option β} (h : k < N a) (hk : k < 2147483648) : xast N m a (zN k) v κ = κ (si m a k v) := by
  unfold xast
  rw [if_pos (by rw [zN_in hk]; exact h), zN_clamp hk]
theorem zlld {β : Type} {N : Nat → Nat} {m : XM} {a k : Nat} {κ : Int64 → Option β} (h : k < N a) (hk : k < 2147483648) : xlld N m a (zN k) κ = κ (gl m a k) := by
  unfold xlld
  rw [if_pos (by rw [zN_in hk]; exact h), zN_clamp hk]
theorem zlst {β : Type} {N : Nat → Nat} {m : XM} {a k : Nat} {v : Int64} {κ : XM → Option β} (h : k < N a) (hk : k < 2147483648) : xlst N m a (zN k) v κ = κ (sl m a k v) := by
  unfold xlst
  rw [if_pos (by rw [zN_in hk]; exact h), zN_clamp hk]
theorem zrld {β : Type} {N : Nat → Nat} {m : XM} {a k u : Nat} {κ : Nat → Option β} (hu : gr m a k = some u) (h : k < N a) (hk : k < 2147483648) : xrld N m a (zN k) κ = κ u := by
  unfold xrld xgr
  rw [if_pos (by rw [zN_in hk]; exact h), zN_clamp hk, hu]
theorem zgr {β : Type} {m : XM} {a k u : Nat} {κ : Nat → Option β} (h : gr m a k = some u) : xgr m a k κ = κ u := by
  unfold xgr
  rw [h]
theorem zgr_si {β : Type} (m : XM) (a k b j : Nat) (v : Int32) (κ : Nat → Option β) : xgr (si m a k v) b j κ = xgr m b j κ := Eq.trans rfl rfl
theorem zgr_sl {β : Type} (m : XM) (a k b j : Nat) (v : Int64) (κ : Nat → Option β) : xgr (sl m a k v) b j κ = xgr m b j κ := Eq.trans rfl rfl
theorem zrld_si {β : Type} (N : Nat → Nat) (m : XM) (a k b : Nat) (j v : Int32) (κ : Nat → Option β) : xrld N (si m a k v) b j κ = xrld N m b j κ := Eq.trans rfl rfl
theorem zca {α β : Type} (z : α × XM) (κ : α → XM → Option β) : xca (some z) κ = κ z.1 z.2 := Eq.trans rfl rfl
theorem zcv {β : Type} (z : XM) (κ : XM → Option β) : xcv (some z) κ = κ z := Eq.trans rfl rfl
theorem znb0 {β : Type} (o : Option β) : xnb (0 : Int32) o = o := Eq.trans rfl rfl
theorem znb1 {β : Type} (o : Option β) : xnb (1 : Int32) o = o := Eq.trans rfl rfl
theorem gi_si (m : XM) (a k : Nat) (v : Int32) : gi (si m a k v) a k = v := by simp [gi, si, xup]
theorem gi_ne {m : XM} {a b k j : Nat} {v : Int32} (h : ¬ (b = a ∧ j = k)) : gi (si m a k v) b j = gi m b j := by
  simp only [gi, si, xup]
  by_cases hb : b = a
  · rw [if_pos hb]
    subst hb
    rw [if_neg (fun q => h ⟨rfl, q⟩)]
  · rw [if_neg hb]
theorem gi_sx (m : XM) (a k b j : Nat) (v : Int32) : gi (si m a k v) b j = if b = a ∧ j = k then v else gi m b j := by
  by_cases h : b = a ∧ j = k
  · rw [if_pos h, h.1, h.2, gi_si]
  · rw [if_neg h, gi_ne h]
theorem gr_si (m : XM) (a k b j : Nat) (v : Int32) : gr (si m a k v) b j = gr m b j := Eq.trans rfl rfl
theorem gl_si (m : XM) (a k b j : Nat) (v : Int32) : gl (si m a k v) b j = gl m b j := Eq.trans rfl rfl
theorem gi_sl (m : XM) (a k b j : Nat) (v : Int64) : gi (sl m a k v) b j = gi m b j := Eq.trans rfl rfl
theorem gr_sl (m : XM) (a k b j : Nat) (v : Int64) : gr (sl m a k v) b j = gr m b j := Eq.trans rfl rfl
theorem gi_sr (m : XM) (a k b j : Nat) (v : Option Nat) : gi (sr m a k v) b j = gi m b j := Eq.trans rfl rfl
theorem gl_sr (m : XM) (a k b j : Nat) (v : Option Nat) : gl (sr m a k v) b j = gl m b j := Eq.trans rfl rfl
theorem gl_sl (m : XM) (a k : Nat) (v : Int64) : gl (sl m a k v) a k = v := by simp [gl, sl, xup]
theorem gl_ne {m : XM} {a b k j : Nat} {v : Int64} (h : ¬ (b = a ∧ j = k)) : gl (sl m a k v) b j = gl m b j := by
  simp only [gl, sl, xup]
  by_cases hb : b = a
  · rw [if_pos hb]
    subst hb
    rw [if_neg (fun q => h ⟨rfl, q⟩)]
  · rw [if_neg hb]
theorem gr_sr (m : XM) (a k : Nat) (v : Option Nat) : gr (sr m a k v) a k = v := by simp [gr, sr, xup]
theorem gr_ne {m : XM} {a b k j : Nat} {v : Option Nat} (h : ¬ (b = a ∧ j = k)) : gr (sr m a k v) b j = gr m b j := by
  simp only [gr, sr, xup]
  by_cases hb : b = a
  · rw [if_pos hb]
    subst hb
    rw [if_neg (fun q => h ⟨rfl, q⟩)]
  · rw [if_neg hb]
/-- what lies from lo below hi is as it was: frames -/
def zsame (m m' : XM) (a : Nat) : Prop := (∀ k, gi m' a k = gi m a k) ∧ (∀ k, gl m' a k = gl m a k) ∧ ∀ k, gr m' a k = gr m a k
/-- all cells but those of lo ≤ a < hi are as they were -/
def zfr (lo hi : Nat) (m m' : XM) : Prop := ∀ a, a < lo ∨ hi ≤ a → zsame m m' a
theorem zfr_rf (lo hi : Nat) (m : XM) : zfr lo hi m m := fun _ _ => ⟨fun _ => rfl, fun _ => rfl, fun _ => rfl⟩
theorem zfr_tr {lo hi : Nat} {m m1 m2 : XM} (h : zfr lo hi m m1) (g : zfr lo hi m1 m2) : zfr lo hi m m2 := fun a ha =>
  ⟨fun k => ((g a ha).1 k).trans ((h a ha).1 k), fun k => ((g a ha).2.1 k).trans ((h a ha).2.1 k), fun k => ((g a ha).2.2 k).trans ((h a ha).2.2 k)⟩
theorem zfr_si {lo hi a k : Nat} {v : Int32} (m : XM) (h1 : lo ≤ a) (h2 : a < hi) : zfr lo hi m (si m a k v) := fun b hb =>
  ⟨fun j => gi_ne (fun q => by omega), fun _ => rfl, fun _ => rfl⟩
theorem zfr_st {lo hi a k : Nat} {v : Int32} {m m1 : XM} (g : zfr lo hi m m1) (h1 : lo ≤ a) (h2 : a < hi) : zfr lo hi m (si m1 a k v) := zfr_tr g (zfr_si m1 h1 h2)
theorem zfr_sl {lo hi a k : Nat} {v : Int64} {m m1 : XM} (g : zfr lo hi m m1) (h1 : lo ≤ a) (h2 : a < hi) : zfr lo hi m (sl m1 a k v) := zfr_tr g (fun b hb => ⟨fun _ => rfl, fun j => gl_ne (fun q => by omega), fun _ => rfl⟩)
theorem zfr_sr {lo hi a k : Nat} {v : Option Nat} {m m1 : XM} (g : zfr lo hi m m1) (h1 : lo ≤ a) (h2 : a < hi) : zfr lo hi m (sr m1 a k v) := zfr_tr g (fun b hb => ⟨fun _ => rfl, fun _ => rfl, fun j => gr_ne (fun q => by omega)⟩)
theorem zfr_wd {lo hi lo' hi' : Nat} {m m1 : XM} (g : zfr lo hi m m1) (h1 : lo' ≤ lo) (h2 : hi ≤ hi') : zfr lo' hi' m m1 := fun a ha => g a (by omega)
/-- a row of numbers -/
def zrow (m : XM) (a n : Nat) (f : Nat → Int32) : Prop := ∀ k, k < n → gi m a k = f k
theorem zrow_fr {lo hi : Nat} {m m' : XM} {a n : Nat} {f : Nat → Int32} (g : zfr lo hi m m') (ha : a < lo ∨ hi ≤ a) (h : zrow m a n f) : zrow m' a n f := fun k hk => ((g a ha).1 k).trans (h k hk)
theorem zrow_o {m : XM} {a b k n : Nat} {v : Int32} {f : Nat → Int32} (hb : b ≠ a) (h : zrow m b n f) : zrow (si m a k v) b n f := fun j hj => by
  rw [gi_ne (fun q => hb q.1)]; exact h j hj
theorem zrow_s {m : XM} {a k n : Nat} {v : Int32} {f g : Nat → Int32} (h : zrow m a n f) (hv : g k = v) (hg : ∀ j, j ≠ k → g j = f j) : zrow (si m a k v) a n g := fun j hj => by
  by_cases q : j = k
  · rw [q, gi_si, hv]
  · rw [gi_ne (fun p => q p.2), hg j q]; exact h j hj
/-- a pile of numbers: its top is the list's head -/
def zstk (m : XM) (a : Nat) : List Nat → Prop
  | [] => True
  | x :: l => gi m a l.length = zN x ∧ zstk m a l
theorem zstk_fr {m m' : XM} {a : Nat} (h0 : ∀ k, gi m' a k = gi m a k) : ∀ {l : List Nat}, zstk m a l → zstk m' a l
  | [], _ => trivial
  | _ :: _, h => ⟨(h0 _).trans h.1, zstk_fr h0 h.2⟩
theorem zstk_o {m : XM} {a b k : Nat} {v : Int32} {l : List Nat} (hb : b ≠ a) (h : zstk m b l) : zstk (si m a k v) b l := zstk_fr (fun _ => gi_ne (fun q => hb q.1)) h
theorem zstk_ge {m : XM} {a k : Nat} {v : Int32} : ∀ {l : List Nat}, l.length ≤ k → zstk m a l → zstk (si m a k v) a l
  | [], _, _ => trivial
  | _ :: l, hk, h => ⟨by rw [gi_ne (fun q => by have := q.2; simp at hk; omega)]; exact h.1, zstk_ge (by simp at hk; omega) h.2⟩
def zstv (m : XM) (a b : Nat) : List Int32 → Prop
  | [] => True
  | x :: l => gi m a (b + l.length) = x ∧ zstv m a b l
theorem zstv_fr {m m' : XM} {a b : Nat} (h0 : ∀ k, k < b + 8 → gi m' a k = gi m a k) : ∀ {l : List Int32}, l.length ≤ 8 → zstv m a b l → zstv m' a b l
  | [], _, _ => trivial
  | _ :: l, hl, h => ⟨(h0 _ (by simp at hl; omega)).trans h.1, zstv_fr h0 (by simp at hl; omega) h.2⟩
theorem zstv_o {m : XM} {a b c k : Nat} {v : Int32} : ∀ {l : List Int32}, c ≠ a → zstv m c b l → zstv (si m a k v) c b l
  | [], _, _ => trivial
  | _ :: _, hk, h => ⟨by rw [gi_ne (fun q => hk q.1)]; exact h.1, zstv_o hk h.2⟩
theorem zstv_ge {m : XM} {a b k : Nat} {v : Int32} : ∀ {l : List Int32}, b + l.length ≤ k → zstv m a b l → zstv (si m a k v) a b l
  | [], _, _ => trivial
  | _ :: l, hk, h => ⟨by rw [gi_ne (fun q => by have := q.2; simp at hk; omega)]; exact h.1, zstv_ge (by simp at hk; omega) h.2⟩
theorem zXF : 100000 ≤ XF := Nat.le_refl _
