/-! ===== l: what holds at the law's entry ===== -/
theorem lq1 {w : Cond} (i : Nat) (h : tables_1_1[i]? = some w) : w ∈ lw_tbl := List.mem_append_right _ (List.mem_append_left _ (List.mem_of_getElem? h))
theorem lq2 {w : Cond} (i : Nat) (h : tables_1_2[i]? = some w) : w ∈ lw_tbl := List.mem_append_right _ (List.mem_append_right _ (List.mem_append_left _ (List.mem_of_getElem? h)))
theorem lq3 {w : Cond} (i : Nat) (h : tables_1_3[i]? = some w) : w ∈ lw_tbl := List.mem_append_right _ (List.mem_append_right _ (List.mem_append_right _ (List.mem_append_left _ (List.mem_of_getElem? h))))
theorem lq4 {w : Cond} (i : Nat) (h : tables_1_4[i]? = some w) : w ∈ lw_tbl := List.mem_append_right _ (List.mem_append_right _ (List.mem_append_right _ (List.mem_append_right _ (List.mem_append_left _ (List.mem_of_getElem? h)))))
theorem lq6 {w : Cond} (i : Nat) (h : tables_1_6[i]? = some w) : w ∈ lw_tbl := List.mem_append_right _ (List.mem_append_right _ (List.mem_append_right _ (List.mem_append_right _ (List.mem_append_right _ (List.mem_append_right _ (List.mem_append_left _ (List.mem_of_getElem? h)))))))
theorem lq7 {w : Cond} (i : Nat) (h : tables_1_7[i]? = some w) : w ∈ lw_tbl := List.mem_append_right _ (List.mem_append_right _ (List.mem_append_right _ (List.mem_append_right _ (List.mem_append_right _ (List.mem_append_right _ (List.mem_append_right _ (List.mem_append_left _ (List.mem_of_getElem? h))))))))
theorem lw_K {args : Array Value} {s : State} (hB : ∀ w ∈ xB, w.before args s = true) (hts : ∀ w ∈ lw_tbl, w.before args s = true) : ∃ (dC : Nat → ClassId) (dI : Nat → Nat → Nat), ∀ (k : Nat) (q : vw_C), vwCl[k]? = some q → u_Kn s q.1 q.2.1 q.2.2 (dC k) (dI k) := by
  have h : ∀ k : Nat, ∃ d : ClassId × (Nat → Nat), ∀ q : vw_C, vwCl[k]? = some q → u_Kn s q.1 q.2.1 q.2.2 d.1 d.2 := by
    intro k
    by_cases hk : k < 10
    · rcases (show k = 0 ∨ k = 1 ∨ k = 2 ∨ k = 3 ∨ k = 4 ∨ k = 5 ∨ k = 6 ∨ k = 7 ∨ k = 8 ∨ k = 9 by omega) with rfl | rfl | rfl | rfl | rfl | rfl | rfl | rfl | rfl | rfl
      · obtain ⟨c, f, h⟩ := u_known (C := RX0) (T := TX0) (N := 5) (n := 5) hB xin0 (hts (.instantiable RX0 5) (lq1 215 rfl))
        exact ⟨(c, f), fun q hq => by have e : (RX0, TX0, 5) = q := Option.some.inj hq; subst e; exact h⟩
      · obtain ⟨c, f, h⟩ := u_known (C := RX1) (T := TX1) (N := 14) (n := 14) hB xin1 (hts (.instantiable RX1 14) (lq1 32 rfl))
        exact ⟨(c, f), fun q hq => by have e : (RX1, TX1, 14) = q := Option.some.inj hq; subst e; exact h⟩
      · obtain ⟨c, f, h⟩ := u_known (C := RX2) (T := TX2) (N := 18) (n := 18) hB xin2 (hts (.instantiable RX2 18) (lq1 238 rfl))
        exact ⟨(c, f), fun q hq => by have e : (RX2, TX2, 18) = q := Option.some.inj hq; subst e; exact h⟩
      · obtain ⟨c, f, h⟩ := u_known (C := RX3) (T := TX3) (N := 7) (n := 7) hB xin3 (hts (.instantiable RX3 7) (lq2 114 rfl))
        exact ⟨(c, f), fun q hq => by have e : (RX3, TX3, 7) = q := Option.some.inj hq; subst e; exact h⟩
      · obtain ⟨c, f, h⟩ := u_known (C := RX4) (T := TX4) (N := 8) (n := 8) hB xin4 (hts (.instantiable RX4 8) (lq2 6 rfl))
        exact ⟨(c, f), fun q hq => by have e : (RX4, TX4, 8) = q := Option.some.inj hq; subst e; exact h⟩
      · obtain ⟨c, f, h⟩ := u_known (C := RX5) (T := TX5) (N := 7) (n := 7) hB xin5 (hts (.instantiable RX5 7) (lq1 44 rfl))
        exact ⟨(c, f), fun q hq => by have e : (RX5, TX5, 7) = q := Option.some.inj hq; subst e; exact h⟩
      · obtain ⟨c, f, h⟩ := u_known (C := RX6) (T := TX6) (N := 14) (n := 14) hB xin6 (hts (.instantiable RX6 14) (lq1 38 rfl))
        exact ⟨(c, f), fun q hq => by have e : (RX6, TX6, 14) = q := Option.some.inj hq; subst e; exact h⟩
      · obtain ⟨c, f, h⟩ := u_known (C := RX7) (T := TX7) (N := 8) (n := 8) hB xin7 (hts (.instantiable RX7 8) (lq2 147 rfl))
        exact ⟨(c, f), fun q hq => by have e : (RX7, TX7, 8) = q := Option.some.inj hq; subst e; exact h⟩
      · obtain ⟨c, f, h⟩ := u_known (C := RX8) (T := TX8) (N := 14) (n := 14) hB xin8 (hts (.instantiable RX8 14) (lq1 24 rfl))
        exact ⟨(c, f), fun q hq => by have e : (RX8, TX8, 14) = q := Option.some.inj hq; subst e; exact h⟩
      · obtain ⟨c, f, h⟩ := u_known (C := RX9) (T := TX9) (N := 47) (n := 47) hB xin9 (hts (.instantiable RX9 47) (lq6 43 rfl))
        exact ⟨(c, f), fun q hq => by have e : (RX9, TX9, 47) = q := Option.some.inj hq; subst e; exact h⟩
    · obtain ⟨c, f, -⟩ := u_known (C := RX0) (T := TX0) (N := 5) (n := 5) hB xin0 (hts (.instantiable RX0 5) (lq1 215 rfl))
      exact ⟨(c, f), fun q hq => by rw [List.getElem?_eq_none (show vwCl.length ≤ k from Nat.le_of_not_lt hk)] at hq; cases hq⟩
  obtain ⟨f, hf⟩ := Classical.axiomOfChoice h
  exact ⟨fun k => (f k).1, fun k => (f k).2, fun k q hq => hf k q hq⟩
theorem lw_arr {args : Array Value} {s : State} {ty : FieldType} (h : (Cond.arrayClass ty).before args s = true) : ∃ cA : ClassId, ArrOfT s cA ty ∧ s.vm.findClass ("[" ++ ty.toString) = some cA := by
  obtain ⟨cA, kA, comp, h1, h2, h3⟩ := Cond.arrayClass_spec (args := args) (first := s) (o := none) (s := s) (idx := []) h
  exact ⟨cA, fun n z => ⟨fun k h => (by cases h), kA, h2, comp, h3⟩, h1⟩
theorem lw_arr2 {args : Array Value} {s : State} (h : (Cond.arrayOver (.array .int)).before args s = true) : ∃ cA : ClassId, ArrOfT s cA (.array .int) ∧ s.vm.findClass ("[" ++ (FieldType.array .int).toString) = some cA := by
  obtain ⟨cI, cA, kA, -, h2, h3, h1⟩ := xm_over h
  exact ⟨cA, fun n z => ⟨fun k h => (by cases h), kA, h2, cI, h3⟩, h1⟩
abbrev lw_fl : List Cond := flatC (Jvm.Cond.and given_1 narrow_1)
def lw_tm (i : Nat) : Term := .string (xstrs.getD i ("", 0, "", 0)).1 (xstrs.getD i ("", 0, "", 0)).2.1
def lw_at (i : Nat) : Nat := [55, 64, 74, 86, 97, 108, 121, 136, 174, 318, 192, 212, 231, 250, 294, 271].getD i 0
theorem lw_f0 : ∀ i, i < 16 → xslen.getD i 0 < 2147483648 := by decide
theorem lw_f1 : ∀ i, i < 16 → lw_fl[lw_at i]? = some (Cond.exactly (lw_tm i) "java/lang/String") := by decide +kernel
theorem lw_f2 : ∀ i, i < 16 → lw_fl[lw_at i + 1]? = some (Cond.eq (.field (lw_tm i) "java/lang/String" "coder" "B") (.int 0)) := by decide +kernel
theorem lw_f3 : ∀ i, i < 16 → lw_fl[lw_at i + 2]? = some (Cond.arrayOf (.field (lw_tm i) "java/lang/String" "value" "[B") .byte) := by decide +kernel
theorem lw_f4 : ∀ i, i < 16 → lw_fl[lw_at i + 3]? = some (Cond.eq (.length (.field (lw_tm i) "java/lang/String" "value" "[B")) (.int (Int32.ofNat (xslen.getD i 0)))) := by decide +kernel
theorem lw_f5 : ∀ i, i < 16 → ∀ j, j < xslen.getD i 0 → lw_fl[lw_at i + 4 + j]? = some (Cond.eq (.elem (.field (lw_tm i) "java/lang/String" "value" "[B") (.int (Int32.ofNat j))) (.int ((xsbyt.getD i []).getD j 0))) := by decide +kernel
theorem lw_str {args : Array Value} {s : State} {A : Nat → Prop} (hs : ∀ c ∈ lw_fl, c.before args s = true) (hA : ∀ a : Nat, a < s.heap.size → ¬ A a) : ∃ adK adV : Nat → Nat, ∀ i : Nat, i < 16 → (lw_tm i).eval args s none [] s = some (.ref (adK i)) ∧ va_O "java/lang/String" (adK i) A s s.heap ∧ va_OF "java/lang/String" "coder" "B" (.int 0) (adK i) A s s.heap ∧ va_OF "java/lang/String" "value" "[B" (.ref (adV i)) (adK i) A s s.heap ∧ va_T .byte (adV i) (xslen.getD i 0) (fun j => .int ((xsbyt.getD i []).getD j 0)) A s s.heap := by
  have h0 : ∀ i : Nat, ∃ q : Nat × Nat, i < 16 → (lw_tm i).eval args s none [] s = some (.ref q.1) ∧ va_O "java/lang/String" q.1 A s s.heap ∧ va_OF "java/lang/String" "coder" "B" (.int 0) q.1 A s s.heap ∧ va_OF "java/lang/String" "value" "[B" (.ref q.2) q.1 A s s.heap ∧ va_T .byte q.2 (xslen.getD i 0) (fun j => .int ((xsbyt.getD i []).getD j 0)) A s s.heap := by
    intro i
    by_cases hi : i < 16
    · have z : ∀ {j : Nat}, j < 1 → j = 0 := fun h => by omega
      obtain ⟨aK, aV, h1, h2⟩ := vk_Sof (args := args) (s := s) (N := 1) (tm := fun _ => lw_tm i) (len := [xslen.getD i 0]) (byt := [xsbyt.getD i []]) (A := A)
        (fun j hj => by rw [z hj]; exact lw_f0 i hi)
        (fun j hj => hs _ (List.mem_of_getElem? (lw_f1 i hi)))
        (fun j hj => hs _ (List.mem_of_getElem? (lw_f2 i hi)))
        (fun j hj => hs _ (List.mem_of_getElem? (lw_f3 i hi)))
        (fun j hj => by rw [z hj]; exact hs _ (List.mem_of_getElem? (lw_f4 i hi)))
        (fun j hj k hk => by
          rw [z hj] at hk ⊢
          exact hs _ (List.mem_of_getElem? (lw_f5 i hi k hk)))
        (fun j k hj hk hne => absurd ((z hj).trans (z hk).symm) hne) hA
      have h3 := h1.1 0 (by omega)
      exact ⟨(aK 0, aV 0), fun _ => ⟨h2 0 (by omega), h3.1, h3.2.1, h3.2.2.1, h3.2.2.2⟩⟩
    · exact ⟨(0, 0), fun h => absurd h hi⟩
  obtain ⟨ad, had⟩ := Classical.axiomOfChoice h0
  exact ⟨fun i => (ad i).1, fun i => (ad i).2, fun i hi => had i hi⟩
theorem lw_on {args : Array Value} {s : State} {w : Cond} (hw : w.onTables = true) (h : w.before args s = true) : w.before #[] s = true := by
  have e := Cond.onTables_vm (A := args) (A' := #[]) (U := s) (U' := s) s.vm w hw
  have hU : s.setVm s.vm = s := rfl
  rw [hU] at e
  rw [← e]
  exact h
theorem lw_No {args : Array Value} {s : State} (hts : ∀ w ∈ lw_tbl, w.before args s = true) : xNo s := by
  intro w hw
  simp only [xno, List.mem_cons, List.not_mem_nil, or_false] at hw
  rcases hw with rfl | rfl | rfl | rfl | rfl
  · exact lw_on rfl (hts _ (lq3 130 rfl))
  · exact lw_on rfl (hts _ (lq4 206 rfl))
  · exact lw_on rfl (hts _ (lq3 132 rfl))
  · exact lw_on rfl (hts _ (lq3 134 rfl))
  · exact lw_on rfl (hts _ (lq3 136 rfl))
theorem lw_g0 : lw_fl[4]? = some (Cond.isRef (.static Bundle.tN "UNASSIGNED_STACK" Bundle.steD)) := by decide +kernel
theorem lw_g1 : lw_fl[5]? = some (Cond.isRef (.static Bundle.tN "SUPPRESSED_SENTINEL" Bundle.listD)) := by decide +kernel
theorem lw_g2 : lw_fl[6]? = some (Cond.eq (.static "java/lang/String" "COMPACT_STRINGS" "Z") (.int 1)) := by decide +kernel
theorem lw_g3 : lw_fl[7]? = some (Cond.isRef (.static "jdk/internal/util/Preconditions" "SIOOBE_FORMATTER" "Ljava/util/function/BiFunction;")) := by decide +kernel
theorem lw_g4 : lw_fl[32]? = some (Cond.not (.castable xIA xNS)) := by decide +kernel
theorem lw_g5 : lw_fl[33]? = some (Cond.exactly (.string "BeginJudge" 270) "java/lang/String") := by decide +kernel
theorem lw_g6 : lw_fl[152]? = some (Cond.exactly (.string "BeginJudge" 277) "java/lang/String") := by decide +kernel
theorem lw_Zs {args : Array Value} {s : State} {A : Nat → Prop} (hB : ∀ w ∈ xB, w.before args s = true) (hts : ∀ w ∈ lw_tbl, w.before args s = true) (hs : ∀ c ∈ lw_fl, c.before args s = true) (hA : ∀ a : Nat, a < s.heap.size → ¬ A a) : xZ A s := by
  have hT : (Cond.initialized Bundle.tN).before args s = true := hts _ (lq1 11 rfl)
  refine ⟨vx_Zqof (hts _ (lq3 155 rfl)) hT (hs _ (List.mem_of_getElem? lw_g0)) hA, vx_Zqof (hts _ (lq3 157 rfl)) hT (hs _ (List.mem_of_getElem? lw_g1)) hA, ?_, ?_, va_Nc.of (hs _ (List.mem_of_getElem? lw_g4)), lw_No hts⟩
  · obtain ⟨a, -, -, -, h1, -⟩ := Cond.exactly_spec (args := args) (first := s) (o := none) (s := s) (idx := []) (hs _ (List.mem_of_getElem? lw_g5))
    exact ⟨a, vk_R.of (A := args) (hts _ (lq3 168 rfl)) h1⟩
  · obtain ⟨a, -, -, -, h1, -⟩ := Cond.exactly_spec (args := args) (first := s) (o := none) (s := s) (idx := []) (hs _ (List.mem_of_getElem? lw_g6))
    exact ⟨a, vk_R.of (A := args) (hts _ (lq4 213 rfl)) h1⟩
theorem lw_lit {args : Array Value} {s : State} {ad : Nat → Nat} (hts : ∀ w ∈ lw_tbl, w.before args s = true) (h : ∀ i : Nat, i < 16 → (lw_tm i).eval args s none [] s = some (.ref (ad i))) : ∀ q ∈ xstrs, vk_R q.1 q.2.1 q.2.2.1 (ad q.2.2.2) s := by
  intro q hq
  simp only [xstrs, List.mem_cons, List.not_mem_nil, or_false] at hq
  rcases hq with rfl | rfl | rfl | rfl | rfl | rfl | rfl | rfl | rfl | rfl | rfl | rfl | rfl | rfl | rfl | rfl
  · exact vk_R.of (A := args) (hts _ (lq3 234 rfl)) (h 0 (by omega))
  · exact vk_R.of (A := args) (hts _ (lq4 47 rfl)) (h 1 (by omega))
  · exact vk_R.of (A := args) (hts _ (lq4 48 rfl)) (h 2 (by omega))
  · exact vk_R.of (A := args) (hts _ (lq4 49 rfl)) (h 3 (by omega))
  · exact vk_R.of (A := args) (hts _ (lq4 50 rfl)) (h 4 (by omega))
  · exact vk_R.of (A := args) (hts _ (lq4 51 rfl)) (h 5 (by omega))
  · exact vk_R.of (A := args) (hts _ (lq4 52 rfl)) (h 6 (by omega))
  · exact vk_R.of (A := args) (hts _ (lq4 53 rfl)) (h 7 (by omega))
  · exact vk_R.of (A := args) (hts _ (lq6 215 rfl)) (h 8 (by omega))
  · exact vk_R.of (A := args) (hts _ (lq7 113 rfl)) (h 9 (by omega))
  · exact vk_R.of (A := args) (hts _ (lq7 33 rfl)) (h 10 (by omega))
  · exact vk_R.of (A := args) (hts _ (lq7 34 rfl)) (h 11 (by omega))
  · exact vk_R.of (A := args) (hts _ (lq7 35 rfl)) (h 12 (by omega))
  · exact vk_R.of (A := args) (hts _ (lq7 36 rfl)) (h 13 (by omega))
  · exact vk_R.of (A := args) (hts _ (lq7 109 rfl)) (h 14 (by omega))
  · exact vk_R.of (A := args) (hts _ (lq7 88 rfl)) (h 15 (by omega))
theorem lw_St {args : Array Value} {s : State} {A : Nat → Prop} {G : XG} (hB : ∀ w ∈ xB, w.before args s = true) (hts : ∀ w ∈ lw_tbl, w.before args s = true) (hs : ∀ c ∈ lw_fl, c.before args s = true) (hA : ∀ a : Nat, a < s.heap.size → ¬ A a) (h : ∀ i : Nat, i < 16 → (lw_tm i).eval args s none [] s = some (.ref (G.1.2.1 i)) ∧ va_O "java/lang/String" (G.1.2.1 i) A s s.heap ∧ va_OF "java/lang/String" "coder" "B" (.int 0) (G.1.2.1 i) A s s.heap ∧ va_OF "java/lang/String" "value" "[B" (.ref (G.1.2.2 i)) (G.1.2.1 i) A s s.heap ∧ va_T .byte (G.1.2.2 i) (xslen.getD i 0) (fun j => .int ((xsbyt.getD i []).getD j 0)) A s s.heap) : xSt A G s :=
  ⟨fun i hi => (h i hi).2, lw_lit hts (fun i hi => (h i hi).1), va_Zof (hts _ (lq4 8 rfl)) (hB _ q158) (va_eqt (hs _ (List.mem_of_getElem? lw_g2))) hA, va_Zqof (hts _ (lq4 24 rfl)) (hB _ q160) (hs _ (List.mem_of_getElem? lw_g3)) hA, over_moved (Vm.Alike.refl _) (hts _ (lq2 4 rfl))⟩
