/-! ===== l: from the entry to the law's loop ===== -/
theorem lk165 : Cond.classLink RL 8 RX8 ∈ xB := xmt1 23 rfl rfl
theorem lk166 : Cond.instantiable RX8 14 ∈ xB := xmt1 24 rfl rfl
theorem lk167 : Cond.methodLink RL 76 mX8_init.1 ∈ xB := xmt1 25 rfl rfl
theorem lk168 : Cond.instanceMethod mX8_init.1 ∈ xB := xmt1 26 rfl rfl
theorem lk169 : xcd mX8_init ∈ xB := xmt1 27 rfl rfl
theorem lk1384 : Cond.classLink RL 77 RX9 ∈ xB := xmt6 42 rfl rfl
theorem lk1385 : Cond.instantiable RX9 47 ∈ xB := xmt6 43 rfl rfl
theorem lk1386 : Cond.methodLink RL 79 mX9_init.1 ∈ xB := xmt6 44 rfl rfl
theorem lk1387 : Cond.instanceMethod mX9_init.1 ∈ xB := xmt6 45 rfl rfl
theorem lk1388 : xcd mX9_init ∈ xB := xmt6 46 rfl rfl
theorem lk527 : Cond.arrayClass .long ∈ xB := xmt2 145 rfl rfl
theorem lnL_8 : xnc RL 8 8 14 := ⟨by decide, RX8, TX8, tyX8, rfl, xin8, tyX8_ok, xdf8, lk165, lk166, q143⟩
theorem lnL_77 : xnc RL 77 9 47 := ⟨by decide, RX9, TX9, tyX9, rfl, xin9, tyX9_ok, xdf9, lk1384, lk1385, q152⟩
theorem lmL_76 : xml RL 76 mX8_init 0 := ⟨lk167, lk169, q143, by decide +kernel, by decide⟩
theorem lmL_79 : xml RL 79 mX9_init 0 := ⟨lk1386, lk1388, q152, by decide +kernel, by decide⟩
/-- the kinds and lengths of all cells -/
def lw_ks : List (Nat × Nat) := [(8, 0)] ++ ksX8_init ++ [(9, 0)] ++ ksX9_init ++ [(11, 1)]
theorem lw_ksl : lw_ks.length = 112 := by decide +kernel
theorem jN_eq {N N' : Nat → Nat} (h : ∀ i, i < 112 → N i = N' i) (hN : jN N') : jN N := by
  unfold jN zUN zRN vWN yN at hN ⊢
  simp (disch := omega) only [h]
  exact hN
def lw_N (i : Nat) : Nat := (lw_ks.getD i (0, 0)).2
theorem lw_jN0 : jN lw_N := by
  unfold jN zUN zRN vWN yN
  repeat' apply And.intro
  all_goals decide +kernel
theorem lw_jN {G0 G : XG} {h0 : Nat} (h00 : G0.2.2.1 = 0) (h : xgrow G0 G h0 lw_ks) : jN (xln G) := by
  refine jN_eq (fun i hi => ?_) lw_jN0
  have h1 := (h.2.2.2.2 i (by rw [lw_ksl]; exact hi)).2
  rw [h00, Nat.zero_add] at h1
  show (G.2.2.2.2 i).2 = lw_N i
  unfold lw_N
  rw [List.getD_eq_getElem?_getD, ← h1]
  rfl
theorem lw_kap : ∃ κ : XM → Option Unit, (∀ m, κ m = some () → m = lw_m2) ∧ κ lw_m2 = some () := by
  refine ⟨fun m => @ite (Option Unit) (m = lw_m2) (Classical.propDecidable _) (some ()) none, fun m h => ?_, if_pos rfl⟩
  apply Classical.byContradiction
  intro hn
  have h2 : (@ite (Option Unit) (m = lw_m2) (Classical.propDecidable _) (some ()) none) = some () := h
  rw [if_neg hn] at h2
  cases h2
def lw_t0 (κ : XM → Option Unit) : Option Unit := xcv (ccX8_init 1 0 (xz xm0 0)) fun m1 => xcv (ccX9_init 86 85 (xz m1 85)) fun m2 => κ m2
theorem lw_t0e {κ : XM → Option Unit} (h : κ lw_m2 = some ()) : lw_t0 κ = some () := by
  unfold lw_t0
  rw [lw_e1]
  show (xcv (ccX9_init 86 85 (xz lw_m1 85)) fun m2 => κ m2) = some ()
  rw [lw_e2]
  exact h
set_option maxRecDepth 100000 in
set_option maxHeartbeats 4000000 in
theorem lw_enter {A : Nat → Prop} {G : XG} {l : Launch} {X : XX} {b L : Nat} {xs : Nat → Int32} {κ : XM → Option Unit} (hκ : ∀ m, κ m = some () → m = lw_m2) (hκ2 : κ lw_m2 = some ()) (hL : L ≤ 3072) (F : xF (room_1, A, 0, 0) G X mL_law) (h00 : G.2.2.1 = 0) (hst : l.stackTraces = false) (hA : ∀ q, X.2.2.1.heap.size ≤ q → A q) (hAi : ∀ q, A q → X.2.2.1.heap.size ≤ q) (hZ : xZ A X.2.2.1) (hab : X.2.2.2.2.1 = #[Value.ref b]) (hX : va_X b L xs X.2.2.1 X.2.2.1.heap) (hbl : b < X.2.2.1.heap.size) (hbA : ¬ A b) : xJ (room_1, A, 0, 0) (xQL X) G l X mL_law 0 [(0, .ref b)] [] xm0 (lw_t0 κ) := by
  unfold lw_t0
  refine xj_newC1 (lvf := fun Γ => [(0, .ref b)]) (stf := fun Γ => []) (n := 0) F hA lnL_8 (show 0 + 1 ≤ 601024 from Nat.le_of_ble_eq_true rfl) (show 0 + 14 ≤ 7293034 from Nat.le_of_ble_eq_true rfl) dL_law_0 h00 (fun G' e => ⟨rfl, rfl⟩) (fun G1 g1 n1 i1 F1 => ?_)
  refine xj_dup F1 dL_law_3 rfl ?_
  refine xj_callN (lvf := fun Γ => [(0, .ref b)]) (stf := fun Γ => [.ref (xad Γ 0)]) (b := 0) (As := []) (ks := ksX8_init) (d' := 4) (mc := 84) (ms := 27764) (n := 1) F1 hA lmL_76 lk168 rfl rfl rfl rfl (Nat.le_of_ble_eq_true rfl) (xfitL (Nat.le_of_ble_eq_true rfl)) ⟨show 1 + 84 ≤ 601024 from Nat.le_of_ble_eq_true rfl, show 14 + 27764 ≤ 7293034 from Nat.le_of_ble_eq_true rfl⟩ dL_law_4 (fun hT z hz => wcX8_init (xnd F1) hT i1 z (by rw [n1]; exact hz)) n1 (fun G' e => ⟨rfl, by simp only [e _ i1.1]⟩) (fun G2 m1 g2 n2 F2 => ?_)
  have i1 := isa_grow g2 i1
  have n2 : G2.2.2.1 = 85 := n2
  refine xj_astore_n (lv' := [(1, .ref (xad G2 0)), (0, .ref b)]) F2 dL_law_7 (by decide) rfl ?_
  refine xj_newC1 (lvf := fun Γ => [(1, .ref (xad Γ 0)), (0, .ref b)]) (stf := fun Γ => []) (n := 85) F2 hA lnL_77 (show 85 + 1 ≤ 601024 from Nat.le_of_ble_eq_true rfl) (show 27778 + 47 ≤ 7293034 from Nat.le_of_ble_eq_true rfl) dL_law_8 n2 (fun G' e => ⟨by simp only [e _ i1.1], rfl⟩) (fun G3 g3 n3 i3 F3 => ?_)
  have i1 := isa_grow g3 i1
  refine xj_dup F3 dL_law_11 rfl ?_
  refine xj_callN (lvf := fun Γ => [(1, .ref (xad Γ 0)), (0, .ref b)]) (stf := fun Γ => [.ref (xad Γ 85)]) (b := 85) (As := []) (ks := ksX9_init) (d' := 1) (mc := 25) (ms := 146855) (n := 86) F3 hA lmL_79 lk1387 rfl rfl rfl rfl (Nat.le_of_ble_eq_true rfl) (xfitL (Nat.le_of_ble_eq_true rfl)) ⟨show 86 + 25 ≤ 601024 from Nat.le_of_ble_eq_true rfl, show 27825 + 146855 ≤ 7293034 from Nat.le_of_ble_eq_true rfl⟩ dL_law_12 (fun hT z hz => wcX9_init (xnd F3) hT i3 z (by rw [n3]; exact hz)) n3 (fun G' e => ⟨by simp only [e _ i1.1], by simp only [e _ i3.1]⟩) (fun G4 m2 g4 n4 F4 => ?_)
  have i1 := isa_grow g4 i1
  have i3 := isa_grow g4 i3
  have n4 : G4.2.2.1 = 111 := n4
  by_cases hm : m2 = lw_m2
  case neg =>
    intro z hz
    exact absurd (hκ _ hz) hm
  subst hm
  refine xj_eq hκ2 ?_
  refine xj_astore_n (lv' := [(2, .ref (xad G4 85)), (1, .ref (xad G4 0)), (0, .ref b)]) F4 dL_law_15 (by decide) rfl ?_
  refine xj_iconst F4 1 dL_law_16 (by decide) ?_
  refine xj_newA_J (lvf := fun Γ => [(2, .ref (xad Γ 85)), (1, .ref (xad Γ 0)), (0, .ref b)]) (stf := fun Γ => []) (len := 1) (n := 111) F4 hA lk527 (by decide) (by decide) (by decide) (show 111 + 1 ≤ 601024 from Nat.le_of_ble_eq_true rfl) (show 174680 + 1 ≤ 7293034 from Nat.le_of_ble_eq_true rfl) dL_law_17 n4 (fun G' e => ⟨by simp only [e _ i1.1, e _ i3.1], rfl⟩) (fun G5 g5 n5 i5 F5 => ?_)
  have i1 := isa_grow g5 i1
  have i3 := isa_grow g5 i3
  have hN : jN (xln G5) := lw_jN h00 (xgrow_tr (Nat.le_refl _) (xgrow_tr (Nat.le_refl _) (xgrow_tr (Nat.le_refl _) (xgrow_tr (Nat.le_refl _) g1 g2) g3) g4) g5)
  refine xj_astore_n (lv' := [(3, .ref (xad G5 111)), (2, .ref (xad G5 85)), (1, .ref (xad G5 0)), (0, .ref b)]) F5 dL_law_19 (by decide) rfl ?_
  refine xj_iconst F5 0 dL_law_20 (by decide) ?_
  refine xj_istore (lv' := [(4, .int 0), (3, .ref (xad G5 111)), (2, .ref (xad G5 85)), (1, .ref (xad G5 0)), (0, .ref b)]) F5 dL_law_21 (by decide) rfl ?_
  refine xj_sub (lv' := [(0, .ref b), (1, .ref (xad G5 0)), (2, .ref (xad G5 85)), (3, .ref (xad G5 111)), (4, .int 0)]) [4, 3, 2, 1, 0] rfl ?_
  have he : fLaw_23 (xln G5) L xs 600 b 0 85 111 0 (xz lw_m2 111) = some () := by
    rw [show (0 : Int32) = zN 0 from zN_lit 0]
    exact lw_all hL 600 0 lw_m3 28 3 lw_S0 (by omega) (by omega) (lw_C0 hN) (lw_M0 hN)
  refine xj_eq he.symm ?_
  exact jLaw_23 F5 hst hA hAi hZ hab hX hbl hbA 600 _ _ b 0 85 111 0 (xz lw_m2 111) (show 112 + 600 ≤ 601024 from Nat.le_of_ble_eq_true rfl) (show 174681 + 6 * 600 ≤ 7293034 from Nat.le_of_ble_eq_true rfl) rfl i1 i3 i5
