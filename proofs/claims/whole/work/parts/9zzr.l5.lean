/-! ===== l: from the entry to the end ===== -/
theorem whole_start {p : Program} {e : Env} {s : State} {m : MethodId} {below : List Frame} {meth : Method} {c : Code} (l : Launch) (hflags : l.flags = flags0) {b L : Nat} {xs : Nat → Int32} (hL : L ≤ 3072) (C0 : lw_At p s m meth c b L xs) : W p l e room_1 s m #[Value.ref b] below meth c s.heap [] 0 0 (lw_Z below #[Value.ref b] s) (entryFrame m ([Value.ref b] : List Value).toArray 7) := by
  obtain ⟨hx, hb, hr, hml, hown, hts, hX, hbl, hlocks, hgv⟩ := id C0
  have hs : ∀ c ∈ lw_fl, c.before #[Value.ref b] s = true := flat_of_before _ hgv
  have hB : ∀ w ∈ xB, w.before #[Value.ref b] s = true := fun w hw => hts w (List.mem_filter.mp hw).1
  have hst : l.stackTraces = false := by
    unfold Launch.stackTraces
    rw [hflags]
    decide +kernel
  have hA : ∀ a : Nat, a < s.heap.size → ¬ (fun q : Nat => s.heap.size ≤ q) a := fun a h => Nat.not_le.mpr h
  obtain ⟨dC, dI, hK⟩ := lw_K hB hts
  obtain ⟨cI, aI, bI⟩ := lw_arr (ty := .int) (hts _ (lq1 89 rfl))
  obtain ⟨cJ, aJ, bJ⟩ := lw_arr (ty := .long) (hts _ (lq2 145 rfl))
  obtain ⟨cZ, aZ, bZ⟩ := lw_arr (ty := .boolean) (hts _ (lq6 191 rfl))
  obtain ⟨cA, aA, bA⟩ := lw_arr2 (hts _ (lq2 4 rfl))
  obtain ⟨adK, adV, hSt⟩ := lw_str (A := fun q : Nat => s.heap.size ≤ q) hs hA
  obtain ⟨κ, hκ, hκ2⟩ := lw_kap
  have F : xF (room_1, (fun q : Nat => s.heap.size ≤ q), 0, 0) (((dC, dI), adK, adV), (cI, cJ, cZ, cA), (0, (fun _ => 0), fun _ => (0, 0))) (p, e, s, m, #[Value.ref b], below, meth, c) mL_law := by
    refine ⟨hx, hb, hr, hml, hown, hB, hlocks, ⟨hK, fun k q hk => ?_⟩, fun i j hi => (Nat.not_lt_zero i hi).elim, lw_St hB hts hs hA hSt, fun i hi => (Nat.not_lt_zero i hi).elim, Nat.zero_le _, Nat.zero_le _⟩
    have hk4 : k < 4 := (List.getElem?_eq_some_iff.mp hk).1
    rcases (show k = 0 ∨ k = 1 ∨ k = 2 ∨ k = 3 by omega) with rfl | rfl | rfl | rfl
    · have e1 : (cI, FieldType.int) = q := Option.some.inj hk
      subst e1; exact ⟨aI, bI⟩
    · have e1 : (cJ, FieldType.long) = q := Option.some.inj hk
      subst e1; exact ⟨aJ, bJ⟩
    · have e1 : (cZ, FieldType.boolean) = q := Option.some.inj hk
      subst e1; exact ⟨aZ, bZ⟩
    · have e1 : (cA, FieldType.array .int) = q := Option.some.inj hk
      subst e1; exact ⟨aA, bA⟩
  have hJ := lw_enter (l := l) (b := b) (L := L) (xs := xs) hκ hκ2 hL F rfl hst (fun q h => h) (fun q h => h) (lw_Zs hB hts hs hA) rfl hX hbl (Nat.not_le.mpr hbl)
  have hl := lv_entry ([.ref b]) (n := 7) (Nat.le_of_ble_eq_true rfl)
  rw [lg_entry_eq]
  generalize (lg_sl ([.ref b]) ++ List.replicate (7 - (lg_sl ([.ref b])).length) Slot.unset).toArray = ls at hl ⊢
  have hl : lv_has ls 7 [(0, .ref b)] := hl
  exact hJ () (lw_t0e hκ2) s.heap [] ls (fun k q h => by simp [xw] at h) va_S.rf (fun a k b ha => (Nat.not_lt_zero a ha).elim) hl
