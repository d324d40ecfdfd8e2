/-! ===== l: the memory that both constructors leave ===== -/
def xm0 : XM := (fun _ _ => 0, fun _ _ => 0, fun _ _ => none)
def lw_o1 : Option XM := ccX8_init 1 0 (xz xm0 0)
def lw_m1 : XM := lw_o1.getD xm0
def lw_o2 : Option XM := ccX9_init 86 85 (xz lw_m1 85)
def lw_m2 : XM := lw_o2.getD xm0
def lw_m3 : XM := xz lw_m2 111
theorem lw_isS {α : Type} {o : Option α} {d : α} (h : o.isSome = true) : o = some (o.getD d) := by
  cases o with
  | none => cases h
  | some x => rfl
theorem lw_e1 : ccX8_init 1 0 (xz xm0 0) = some lw_m1 := lw_isS (o := lw_o1) (by decide +kernel)
theorem lw_e2 : ccX9_init 86 85 (xz lw_m1 85) = some lw_m2 := lw_isS (o := lw_o2) (by decide +kernel)
def lw_P0 : zP := ((0, fun _ => 0, fun _ => none, fun _ => 0), (fun _ => 0, fun _ => none, fun _ => none, fun _ => none, fun _ => []), [], (fun _ i => i), fun _ => true)
def lw_S0 : zJ := (lw_P0, (0, fun _ => 0), zM, (zN 0, zN 0), [])
theorem lw_nok {x : Nat} (h : zok lw_P0 x) : False := by
  unfold zok at h
  have h1 : zn lw_P0 = 0 := rfl
  have h2 : zcnt lw_P0 (x / 12) = 0 := rfl
  omega
theorem lw_no {u : Nat} (h : u < zn lw_P0) : False := Nat.not_lt_zero u h
theorem lw_W0 : jW lw_P0 := ⟨⟨Nat.zero_le _, fun u hu => (lw_no hu).elim, fun x h => (lw_nok h).elim, Nat.zero_le _, fun d hd => by cases hd⟩, fun u hu => (lw_no hu).elim, fun x y a h => (lw_nok h.1).elim, fun x h => (lw_nok h).elim⟩
theorem lw_U0 : jU lw_m3 28 lw_P0 := by
  refine ⟨⟨by decide +kernel, by decide +kernel, fun u hu => (lw_no hu).elim, fun x h => (lw_nok h).elim, fun u i hu => (lw_no hu).elim, fun x h => (lw_nok h).elim, fun k d h => ?_⟩, fun u a hu => (lw_no hu).elim⟩
  have h0 : ([] : List zDeed)[k]? = some d := h
  simp at h0
theorem lw_s0 : jS lw_m3 28 3 := by
  refine ⟨Or.inl ⟨rfl, rfl⟩, by decide +kernel, by decide +kernel, by decide +kernel, ?_, ?_, ⟨28, ?_⟩, ⟨28, ?_⟩, by decide +kernel, ?_⟩
  · unfold zUr; decide +kernel
  · unfold zUr; decide +kernel
  · unfold zRr; decide +kernel
  · unfold zRr; decide +kernel
  · unfold vWr; decide +kernel
theorem lw_C0 {N : Nat → Nat} (h : jN N) : jC N lw_m3 28 3 lw_S0 := by
  refine ⟨h, lw_s0, lw_W0, lw_U0, ⟨⟨0, by decide +kernel, by omega⟩, Or.inl (by decide +kernel)⟩, ⟨0, by decide +kernel, by omega⟩, Or.inl (by decide +kernel), ⟨Nat.zero_le _, by decide +kernel, by decide +kernel, by decide +kernel, by decide +kernel, fun k hk => (Nat.not_lt_zero k hk).elim⟩, Nat.zero_le _, by decide +kernel, 0, by omega, by decide +kernel, trivial⟩
theorem lw_M0 {N : Nat → Nat} (h : jN N) : jM N lw_m3 lw_S0 := by
  refine ⟨h, ?_, lw_W0, ⟨by decide +kernel, by decide +kernel, by decide +kernel, fun u hu => (lw_no hu).elim, fun x hx => (lw_nok hx).elim, fun k d hd => ?_⟩, ⟨0, by decide +kernel, by omega⟩, by decide +kernel, Or.inl (by decide +kernel), ⟨Nat.zero_le _, by decide +kernel, by decide +kernel, by decide +kernel, by decide +kernel, fun k hk => (Nat.not_lt_zero k hk).elim⟩, Nat.zero_le _, by decide +kernel, trivial⟩
  · unfold yR; decide +kernel
  · have h0 : ([] : List zDeed)[k]? = some d := hd
    simp at h0
