set_option maxRecDepth 20000 in
set_option maxHeartbeats 4000000 in
theorem jX1_isDigit_16 {G : XG} {l : Launch} {d : Nat} {X : XX} (F : xF (xE G d) G X mX1_isDigit) (hdep : 0 ≤ d) : ∀ (m0 : XM), xJ (xE G d) (xQ xrI G X mX1_isDigit) G l X mX1_isDigit 16 [] [] m0 (fX1_isDigit_16 (xln G)  m0) := by
  intro m0
  unfold fX1_isDigit_16
  refine xj_iconst F 0 dX1_isDigit_16 (by decide) ?_
  exact xj_retZ F rfl rfl dX1_isDigit_17
set_option maxRecDepth 20000 in
set_option maxHeartbeats 4000000 in
theorem wX1_isDigit {G : XG} {l : Launch} {d : Nat} (hn : xN G) (hdep : 0 ≤ d) {m0 : XM} (hT : xT G m0) {a0 : Nat} {a1 : Int32} (ha0 : isa G a0 1) : ∀ z, fX1_isDigit (xln G) a0 a1 m0 = some z → xMet G l mX1_isDigit d [.ref (xad G a0), .int a1] m0 (xrI z) := by
  refine xMet_of (by decide +kernel) hn hT (Nat.le_of_ble_eq_true rfl) (fun X F => ?_)
  refine xj_sub (lv' := [(0, .ref (xad G a0)), (1, .int a1)]) [0, 1] rfl ?_
  unfold fX1_isDigit
  refine xj_iload_n F 1 dX1_isDigit_0 rfl ?_
  refine xj_bipush F 48 dX1_isDigit_1 (by decide) ?_
  refine xj_icmp_lt (tgt := 16) F dX1_isDigit_3 (by decide) ?_ ?_
  · refine xj_sub (lv' := []) [] rfl ?_
    exact jX1_isDigit_16 F hdep m0
  · refine xj_iload_n F 1 dX1_isDigit_6 rfl ?_
    refine xj_bipush F 57 dX1_isDigit_7 (by decide) ?_
    refine xj_icmp_gt (tgt := 16) F dX1_isDigit_9 (by decide) ?_ ?_
    · refine xj_sub (lv' := []) [] rfl ?_
      exact jX1_isDigit_16 F hdep m0
    · refine xj_iconst F 1 dX1_isDigit_12 (by decide) ?_
      refine xj_goto (tgt := 17) F dX1_isDigit_13 (by decide) ?_
      exact xj_retZ F rfl rfl dX1_isDigit_17
set_option maxRecDepth 20000 in
set_option maxHeartbeats 4000000 in
theorem wX1_putToken {G : XG} {l : Launch} {d : Nat} (hn : xN G) (hdep : 0 ≤ d) {m0 : XM} (hT : xT G m0) {a0 : Nat} {a1 : Int32} {a2 : Int32} {a3 : Int32} (ha0 : isa G a0 1) : ∀ z, fX1_putToken (xln G) a0 a1 a2 a3 m0 = some z → xMet G l mX1_putToken d [.ref (xad G a0), .int a1, .int a2, .int a3] m0 (xrV z) := by
  refine xMet_of (by decide +kernel) hn hT (Nat.le_of_ble_eq_true rfl) (fun X F => ?_)
  refine xj_sub (lv' := [(0, .ref (xad G a0)), (1, .int a1), (2, .int a2), (3, .int a3)]) [0, 1, 2, 3] rfl ?_
  unfold fX1_putToken
  refine xj_aload_n F 0 dX1_putToken_0 rfl ?_
  refine xj_get F ha0 lgX1_85 dX1_putToken_1 (fun v1 => ?_)
  refine xj_aload_n F 0 dX1_putToken_4 rfl ?_
  refine xj_getR F ha0 lgX1_31 dX1_putToken_5 (fun u2 hu2 => ?_)
  refine xj_alen F hu2 (by decide) dX1_putToken_8 (fun v3 => ?_)
  refine xj_icmp_ge (tgt := 52) F dX1_putToken_9 (by decide) ?_ ?_
  · exact xj_retV F rfl dX1_putToken_52
  · refine xj_aload_n F 0 dX1_putToken_12 rfl ?_
    refine xj_getR F ha0 lgX1_31 dX1_putToken_13 (fun u4 hu4 => ?_)
    refine xj_aload_n F 0 dX1_putToken_16 rfl ?_
    refine xj_get F ha0 lgX1_85 dX1_putToken_17 (fun v5 => ?_)
    refine xj_iload_n F 1 dX1_putToken_20 rfl ?_
    refine xj_iast F hu4 dX1_putToken_21 (fun m6 => ?_)
    refine xj_aload_n F 0 dX1_putToken_22 rfl ?_
    refine xj_getR F ha0 lgX1_34 dX1_putToken_23 (fun u7 hu7 => ?_)
    refine xj_aload_n F 0 dX1_putToken_26 rfl ?_
    refine xj_get F ha0 lgX1_85 dX1_putToken_27 (fun v8 => ?_)
    refine xj_iload_n F 2 dX1_putToken_30 rfl ?_
    refine xj_iast F hu7 dX1_putToken_31 (fun m9 => ?_)
    refine xj_aload_n F 0 dX1_putToken_32 rfl ?_
    refine xj_getR F ha0 lgX1_37 dX1_putToken_33 (fun u10 hu10 => ?_)
    refine xj_aload_n F 0 dX1_putToken_36 rfl ?_
    refine xj_get F ha0 lgX1_85 dX1_putToken_37 (fun v11 => ?_)
    refine xj_iload_n F 3 dX1_putToken_40 rfl ?_
    refine xj_iast F hu10 dX1_putToken_41 (fun m12 => ?_)
    refine xj_aload_n F 0 dX1_putToken_42 rfl ?_
    refine xj_dup F dX1_putToken_43 rfl ?_
    refine xj_get F ha0 lgX1_85 dX1_putToken_44 (fun v13 => ?_)
    refine xj_iconst F 1 dX1_putToken_47 (by decide) ?_
    refine xj_iadd F dX1_putToken_48 (fun v14 => ?_)
    refine xj_put F ha0 lpX1_85 dX1_putToken_49 (fun m15 => ?_)
    exact xj_retV F rfl dX1_putToken_52
set_option maxRecDepth 20000 in
set_option maxHeartbeats 4000000 in
theorem jX1_cutNumber_52 {G : XG} {l : Launch} {d : Nat} {X : XX} (F : xF (xE G d) G X mX1_cutNumber) (hdep : 1 ≤ d) : ∀ (q0 : Nat) (x1 : Int32) (x2 : Int32) (x3 : Int32) (m0 : XM), isa G q0 1 → xJ (xE G d) (xQ xrI G X mX1_cutNumber) G l X mX1_cutNumber 52 [(0, .ref (xad G q0)), (1, .int x1), (2, .int x2), (3, .int x3)] [] m0 (fX1_cutNumber_52 (xln G) q0 x1 x2 x3 m0) := by
  intro q0 x1 x2 x3 m0 hq0
  unfold fX1_cutNumber_52
  refine xj_aload_n F 0 dX1_cutNumber_52 rfl ?_
  refine xj_sipush F 259 dX1_cutNumber_53 (by decide) ?_
  refine xj_iload_n F 1 dX1_cutNumber_56 rfl ?_
  refine xj_iload_n F 2 dX1_cutNumber_57 rfl ?_
  refine xj_callVV (b := q0) (As := [.int 259, .int x1, .int x2]) (d' := 0) F hq0 lmX1_92 rfl rfl (Nat.le_of_ble_eq_true rfl) (xfit (Nat.le_trans (Nat.le_of_ble_eq_true rfl) hdep)) dX1_cutNumber_58 (fun hT z hz => wX1_putToken (xnd F) (Nat.le_refl _) hT (a0 := q0) (a1 := 259) (a2 := x1) (a3 := x2) hq0 z hz) (fun m1 => ?_)
  refine xj_iload_n F 3 dX1_cutNumber_61 rfl ?_
  exact xj_ret F rfl dX1_cutNumber_62
set_option maxRecDepth 20000 in
set_option maxHeartbeats 4000000 in
theorem jX1_cutNumber_4 {G : XG} {l : Launch} {d : Nat} {X : XX} (F : xF (xE G d) G X mX1_cutNumber) (hdep : 1 ≤ d) : ∀ (n : Nat) (q0 : Nat) (x1 : Int32) (x2 : Int32) (x3 : Int32) (m0 : XM), isa G q0 1 → xJ (xE G d) (xQ xrI G X mX1_cutNumber) G l X mX1_cutNumber 4 [(0, .ref (xad G q0)), (1, .int x1), (2, .int x2), (3, .int x3)] [] m0 (fX1_cutNumber_4 (xln G) n q0 x1 x2 x3 m0) := by
  intro n
  induction n with
  | zero => intro q0 x1 x2 x3 m0 hq0; exact xj_none
  | succ n hr4 =>
    intro q0 x1 x2 x3 m0 hq0
    unfold fX1_cutNumber_4
    generalize hrg4 : (fun q0 x1 x2 x3 m0 => fX1_cutNumber_4 (xln G) n q0 x1 x2 x3 m0) = r4
    have hr4 : ∀ (q0 : Nat) (x1 : Int32) (x2 : Int32) (x3 : Int32) (m0 : XM), isa G q0 1 → xJ (xE G d) (xQ xrI G X mX1_cutNumber) G l X mX1_cutNumber 4 [(0, .ref (xad G q0)), (1, .int x1), (2, .int x2), (3, .int x3)] [] m0 (r4 q0 x1 x2 x3 m0) := by
      subst hrg4
      exact hr4
    clear hrg4
    refine xj_eq (xv_eq _ _) ?_
    refine xj_iload_n F 3 dX1_cutNumber_4 rfl ?_
    refine xj_aload_n F 0 dX1_cutNumber_5 rfl ?_
    refine xj_get F hq0 lgX1_82 dX1_cutNumber_6 (fun v1 => ?_)
    refine xj_icmp_ge (tgt := 52) F dX1_cutNumber_9 (by decide) ?_ ?_
    · exact jX1_cutNumber_52 F hdep q0 x1 x2 x3 m0 hq0
    · refine xj_aload_n F 0 dX1_cutNumber_12 rfl ?_
      refine xj_aload_n F 0 dX1_cutNumber_13 rfl ?_
      refine xj_getR F hq0 lgX1_28 dX1_cutNumber_14 (fun u2 hu2 => ?_)
      refine xj_iload_n F 3 dX1_cutNumber_17 rfl ?_
      refine xj_iald F hu2 dX1_cutNumber_18 (fun v3 => ?_)
      refine xj_callVI (b := q0) (As := [.int v3]) (d' := 0) F hq0 lmX1_96 rfl rfl (Nat.le_of_ble_eq_true rfl) (xfit (Nat.le_trans (Nat.le_of_ble_eq_true rfl) hdep)) dX1_cutNumber_19 (fun hT z hz => wX1_isDigit (xnd F) (Nat.le_refl _) hT (a0 := q0) (a1 := v3) hq0 z hz) (fun v5 m4 => ?_)
      refine xj_if_eq (tgt := 52) F dX1_cutNumber_22 (by decide) ?_ ?_
      · exact jX1_cutNumber_52 F hdep q0 x1 x2 x3 m4 hq0
      · refine xj_iload_n F 2 dX1_cutNumber_25 rfl ?_
        refine xj_bipush F 10 dX1_cutNumber_26 (by decide) ?_
        refine xj_imul F dX1_cutNumber_28 (fun v6 => ?_)
        refine xj_aload_n F 0 dX1_cutNumber_29 rfl ?_
        refine xj_getR F hq0 lgX1_28 dX1_cutNumber_30 (fun u7 hu7 => ?_)
        refine xj_iload_n F 3 dX1_cutNumber_33 rfl ?_
        refine xj_iald F hu7 dX1_cutNumber_34 (fun v8 => ?_)
        refine xj_iadd F dX1_cutNumber_35 (fun v9 => ?_)
        refine xj_bipush F 48 dX1_cutNumber_36 (by decide) ?_
        refine xj_isub F dX1_cutNumber_38 (fun v10 => ?_)
        refine xj_sipush F 1000 dX1_cutNumber_39 (by decide) ?_
        refine xj_callSI (As := [.int v10, .int 1000]) (d' := 0) F lmX1_76 rfl rfl (Nat.le_of_ble_eq_true rfl) (xfit (Nat.le_trans (Nat.le_of_ble_eq_true rfl) hdep)) dX1_cutNumber_42 (fun hT z hz => wJ9_min_7cf53 (xnd F) (Nat.le_refl _) hT (a0 := v10) (a1 := 1000)  z hz) (fun v12 m11 => ?_)
        refine xj_istore_n (lv' := [(2, .int v12), (0, .ref (xad G q0)), (1, .int x1), (3, .int x3)]) F dX1_cutNumber_45 (by decide) rfl ?_
        refine xj_iinc F 3 1 (fun v13 => [(3, .int v13), (2, .int v12), (0, .ref (xad G q0)), (1, .int x1)]) dX1_cutNumber_46 rfl (by decide) (by decide) (fun _ => rfl) (fun v13 => ?_)
        refine xj_goto (tgt := 4) F dX1_cutNumber_49 (by decide) ?_
        refine xj_sub (lv' := [(0, .ref (xad G q0)), (1, .int x1), (2, .int v12), (3, .int v13)]) [2, 3, 1, 0] rfl ?_
        exact hr4 q0 x1 v12 v13 m11 hq0
set_option maxRecDepth 20000 in
set_option maxHeartbeats 4000000 in
theorem wX1_cutNumber {G : XG} {l : Launch} {d : Nat} (hn : xN G) (hdep : 1 ≤ d) {m0 : XM} (hT : xT G m0) {a0 : Nat} {a1 : Int32} (ha0 : isa G a0 1) : ∀ z, fX1_cutNumber (xln G) a0 a1 m0 = some z → xMet G l mX1_cutNumber d [.ref (xad G a0), .int a1] m0 (xrI z) := by
  refine xMet_of (by decide +kernel) hn hT (Nat.le_of_ble_eq_true rfl) (fun X F => ?_)
  refine xj_sub (lv' := [(0, .ref (xad G a0)), (1, .int a1)]) [0, 1] rfl ?_
  unfold fX1_cutNumber
  refine xj_iconst F 0 dX1_cutNumber_0 (by decide) ?_
  refine xj_istore_n (lv' := [(2, .int 0), (0, .ref (xad G a0)), (1, .int a1)]) F dX1_cutNumber_1 (by decide) rfl ?_
  refine xj_iload_n F 2 dX1_cutNumber_2 rfl ?_
  refine xj_istore_n (lv' := [(3, .int a1), (2, .int 0), (0, .ref (xad G a0)), (1, .int a1)]) F dX1_cutNumber_3 (by decide) rfl ?_
  refine xj_sub (lv' := [(0, .ref (xad G a0)), (1, .int a1), (2, .int 0), (3, .int a1)]) [2, 3, 1, 0] rfl ?_
  exact jX1_cutNumber_4 F hdep XF a0 a1 0 a1 m0 ha0
set_option maxRecDepth 20000 in
set_option maxHeartbeats 4000000 in
theorem jX1_isSmall_16 {G : XG} {l : Launch} {d : Nat} {X : XX} (F : xF (xE G d) G X mX1_isSmall) (hdep : 0 ≤ d) : ∀ (m0 : XM), xJ (xE G d) (xQ xrI G X mX1_isSmall) G l X mX1_isSmall 16 [] [] m0 (fX1_isSmall_16 (xln G)  m0) := by
  intro m0
  unfold fX1_isSmall_16
  refine xj_iconst F 0 dX1_isSmall_16 (by decide) ?_
  exact xj_retZ F rfl rfl dX1_isSmall_17
set_option maxRecDepth 20000 in
set_option maxHeartbeats 4000000 in
theorem wX1_isSmall {G : XG} {l : Launch} {d : Nat} (hn : xN G) (hdep : 0 ≤ d) {m0 : XM} (hT : xT G m0) {a0 : Nat} {a1 : Int32} (ha0 : isa G a0 1) : ∀ z, fX1_isSmall (xln G) a0 a1 m0 = some z → xMet G l mX1_isSmall d [.ref (xad G a0), .int a1] m0 (xrI z) := by
  refine xMet_of (by decide +kernel) hn hT (Nat.le_of_ble_eq_true rfl) (fun X F => ?_)
  refine xj_sub (lv' := [(0, .ref (xad G a0)), (1, .int a1)]) [0, 1] rfl ?_
  unfold fX1_isSmall
  refine xj_iload_n F 1 dX1_isSmall_0 rfl ?_
  refine xj_bipush F 97 dX1_isSmall_1 (by decide) ?_
  refine xj_icmp_lt (tgt := 16) F dX1_isSmall_3 (by decide) ?_ ?_
  · refine xj_sub (lv' := []) [] rfl ?_
    exact jX1_isSmall_16 F hdep m0
  · refine xj_iload_n F 1 dX1_isSmall_6 rfl ?_
    refine xj_bipush F 122 dX1_isSmall_7 (by decide) ?_
    refine xj_icmp_gt (tgt := 16) F dX1_isSmall_9 (by decide) ?_ ?_
    · refine xj_sub (lv' := []) [] rfl ?_
      exact jX1_isSmall_16 F hdep m0
    · refine xj_iconst F 1 dX1_isSmall_12 (by decide) ?_
      refine xj_goto (tgt := 17) F dX1_isSmall_13 (by decide) ?_
      exact xj_retZ F rfl rfl dX1_isSmall_17
set_option maxRecDepth 20000 in
set_option maxHeartbeats 4000000 in
theorem jX1_spells_15 {G : XG} {l : Launch} {d : Nat} {X : XX} (F : xF (xE G d) G X mX1_spells) (hdep : 4 ≤ d) : ∀ (n : Nat) (q0 : Nat) (q1 : Nat) (x2 : Int32) (x4 : Int32) (m0 : XM), isa G q0 1 → q1 < 16 → xJ (xE G d) (xQ xrI G X mX1_spells) G l X mX1_spells 15 [(0, .ref (xad G q0)), (1, .ref (G.1.2.1 q1)), (2, .int x2), (4, .int x4)] [] m0 (fX1_spells_15 (xln G) n q0 q1 x2 x4 m0) := by
  intro n
  induction n with
  | zero => intro q0 q1 x2 x4 m0 hq0 hq1; exact xj_none
  | succ n hr15 =>
    intro q0 q1 x2 x4 m0 hq0 hq1
    unfold fX1_spells_15
    generalize hrg15 : (fun q0 q1 x2 x4 m0 => fX1_spells_15 (xln G) n q0 q1 x2 x4 m0) = r15
    have hr15 : ∀ (q0 : Nat) (q1 : Nat) (x2 : Int32) (x4 : Int32) (m0 : XM), isa G q0 1 → q1 < 16 → xJ (xE G d) (xQ xrI G X mX1_spells) G l X mX1_spells 15 [(0, .ref (xad G q0)), (1, .ref (G.1.2.1 q1)), (2, .int x2), (4, .int x4)] [] m0 (r15 q0 q1 x2 x4 m0) := by
      subst hrg15
      exact hr15
    clear hrg15
    refine xj_eq (xv_eq _ _) ?_
    refine xj_iload F 3 dX1_spells_15 rfl ?_
    refine xj_aload_n F 1 dX1_spells_17 rfl ?_
    refine xj_callTI (i := q1) (As := []) (d' := 1) F hq1 lmX1_137 rfl rfl (Nat.le_of_ble_eq_true rfl) (xfit (Nat.le_trans (Nat.le_of_ble_eq_true rfl) hdep)) dX1_spells_18 (fun hT z hz => wJ0_length_8abf5 (xnd F) (Nat.le_refl _) hT (a0 := q1) hq1 z hz) (fun v2 m1 => ?_)
    refine xj_icmp_ge (tgt := 50) F dX1_spells_21 (by decide) ?_ ?_
    · refine xj_iconst F 1 dX1_spells_50 (by decide) ?_
      exact xj_retZ F rfl rfl dX1_spells_51
    · refine xj_aload_n F 0 dX1_spells_24 rfl ?_
      refine xj_getR F hq0 lgX1_28 dX1_spells_25 (fun u3 hu3 => ?_)
      refine xj_iload_n F 2 dX1_spells_28 rfl ?_
      refine xj_iload F 3 dX1_spells_29 rfl ?_
      refine xj_iadd F dX1_spells_31 (fun v4 => ?_)
      refine xj_iald F hu3 dX1_spells_32 (fun v5 => ?_)
      refine xj_aload_n F 1 dX1_spells_33 rfl ?_
      refine xj_iload F 3 dX1_spells_34 rfl ?_
      refine xj_callTI (i := q1) (As := [.int x4]) (d' := 3) F hq1 lmX1_142 rfl rfl (Nat.le_of_ble_eq_true rfl) (xfit (Nat.le_trans (Nat.le_of_ble_eq_true rfl) hdep)) dX1_spells_36 (fun hT z hz => wJ0_charAt_5068e (xnd F) (Nat.le_refl _) hT (a0 := q1) (a1 := x4) hq1 z hz) (fun v7 m6 => ?_)
      refine xj_icmp_eq (tgt := 44) F dX1_spells_39 (by decide) ?_ ?_
      · refine xj_iinc F 3 1 (fun v8 => [(4, .int v8), (0, .ref (xad G q0)), (1, .ref (G.1.2.1 q1)), (2, .int x2)]) dX1_spells_44 rfl (by decide) (by decide) (fun _ => rfl) (fun v8 => ?_)
        refine xj_goto (tgt := 15) F dX1_spells_47 (by decide) ?_
        refine xj_sub (lv' := [(0, .ref (xad G q0)), (1, .ref (G.1.2.1 q1)), (2, .int x2), (4, .int v8)]) [1, 2, 3, 0] rfl ?_
        exact hr15 q0 q1 x2 v8 m6 hq0 hq1
      · refine xj_iconst F 0 dX1_spells_42 (by decide) ?_
        exact xj_retZ F rfl rfl dX1_spells_43
set_option maxRecDepth 20000 in
set_option maxHeartbeats 4000000 in
theorem wX1_spells {G : XG} {l : Launch} {d : Nat} (hn : xN G) (hdep : 4 ≤ d) {m0 : XM} (hT : xT G m0) {a0 : Nat} {a1 : Nat} {a2 : Int32} {a3 : Int32} (ha0 : isa G a0 1) (ha1 : a1 < 16) : ∀ z, fX1_spells (xln G) a0 a1 a2 a3 m0 = some z → xMet G l mX1_spells d [.ref (xad G a0), .ref (G.1.2.1 a1), .int a2, .int a3] m0 (xrI z) := by
  refine xMet_of (by decide +kernel) hn hT (Nat.le_of_ble_eq_true rfl) (fun X F => ?_)
  refine xj_sub (lv' := [(0, .ref (xad G a0)), (1, .ref (G.1.2.1 a1)), (2, .int a2), (3, .int a3)]) [0, 1, 2, 3] rfl ?_
  unfold fX1_spells
  refine xj_iload_n F 3 dX1_spells_0 rfl ?_
  refine xj_iload_n F 2 dX1_spells_1 rfl ?_
  refine xj_isub F dX1_spells_2 (fun v1 => ?_)
  refine xj_aload_n F 1 dX1_spells_3 rfl ?_
  refine xj_callTI (i := a1) (As := []) (d' := 1) F ha1 lmX1_137 rfl rfl (Nat.le_of_ble_eq_true rfl) (xfit (Nat.le_trans (Nat.le_of_ble_eq_true rfl) hdep)) dX1_spells_4 (fun hT z hz => wJ0_length_8abf5 (xnd F) (Nat.le_refl _) hT (a0 := a1) ha1 z hz) (fun v3 m2 => ?_)
  refine xj_icmp_eq (tgt := 12) F dX1_spells_7 (by decide) ?_ ?_
  · refine xj_iconst F 0 dX1_spells_12 (by decide) ?_
    refine xj_istore (lv' := [(4, .int 0), (0, .ref (xad G a0)), (1, .ref (G.1.2.1 a1)), (2, .int a2), (3, .int a3)]) F dX1_spells_13 (by decide) rfl ?_
    refine xj_sub (lv' := [(0, .ref (xad G a0)), (1, .ref (G.1.2.1 a1)), (2, .int a2), (4, .int 0)]) [1, 2, 3, 0] rfl ?_
    exact jX1_spells_15 F hdep XF a0 a1 a2 0 m2 ha0 ha1
  · refine xj_iconst F 0 dX1_spells_10 (by decide) ?_
    exact xj_retZ F rfl rfl dX1_spells_11
set_option maxRecDepth 20000 in
set_option maxHeartbeats 4000000 in
theorem wX1_wordKind {G : XG} {l : Launch} {d : Nat} (hn : xN G) (hdep : 5 ≤ d) {m0 : XM} (hT : xT G m0) {a0 : Nat} {a1 : Int32} {a2 : Int32} (ha0 : isa G a0 1) : ∀ z, fX1_wordKind (xln G) a0 a1 a2 m0 = some z → xMet G l mX1_wordKind d [.ref (xad G a0), .int a1, .int a2] m0 (xrI z) := by
  refine xMet_of (by decide +kernel) hn hT (Nat.le_of_ble_eq_true rfl) (fun X F => ?_)
  refine xj_sub (lv' := [(0, .ref (xad G a0)), (1, .int a1), (2, .int a2)]) [0, 1, 2] rfl ?_
  unfold fX1_wordKind
  refine xj_aload_n F 0 dX1_wordKind_0 rfl ?_
  refine xj_ldcS (i := 0) F (List.mem_of_getElem? (i := 0) rfl) dX1_wordKind_1 ?_
  refine xj_iload_n F 1 dX1_wordKind_3 rfl ?_
  refine xj_iload_n F 2 dX1_wordKind_4 rfl ?_
  refine xj_callVI (b := a0) (As := [.ref (G.1.2.1 0), .int a1, .int a2]) (d' := 4) F ha0 lmX1_119 rfl rfl (Nat.le_of_ble_eq_true rfl) (xfit (Nat.le_trans (Nat.le_of_ble_eq_true rfl) hdep)) dX1_wordKind_5 (fun hT z hz => wX1_spells (xnd F) (Nat.le_refl _) hT (a0 := a0) (a1 := 0) (a2 := a1) (a3 := a2) ha0 (by decide) z hz) (fun v2 m1 => ?_)
  refine xj_if_eq (tgt := 15) F dX1_wordKind_8 (by decide) ?_ ?_
  · refine xj_aload_n F 0 dX1_wordKind_15 rfl ?_
    refine xj_ldcS (i := 1) F (List.mem_of_getElem? (i := 1) rfl) dX1_wordKind_16 ?_
    refine xj_iload_n F 1 dX1_wordKind_18 rfl ?_
    refine xj_iload_n F 2 dX1_wordKind_19 rfl ?_
    refine xj_callVI (b := a0) (As := [.ref (G.1.2.1 1), .int a1, .int a2]) (d' := 4) F ha0 lmX1_119 rfl rfl (Nat.le_of_ble_eq_true rfl) (xfit (Nat.le_trans (Nat.le_of_ble_eq_true rfl) hdep)) dX1_wordKind_20 (fun hT z hz => wX1_spells (xnd F) (Nat.le_refl _) hT (a0 := a0) (a1 := 1) (a2 := a1) (a3 := a2) ha0 (by decide) z hz) (fun v4 m3 => ?_)
    refine xj_if_eq (tgt := 30) F dX1_wordKind_23 (by decide) ?_ ?_
    · refine xj_aload_n F 0 dX1_wordKind_30 rfl ?_
      refine xj_ldcS (i := 2) F (List.mem_of_getElem? (i := 2) rfl) dX1_wordKind_31 ?_
      refine xj_iload_n F 1 dX1_wordKind_33 rfl ?_
      refine xj_iload_n F 2 dX1_wordKind_34 rfl ?_
      refine xj_callVI (b := a0) (As := [.ref (G.1.2.1 2), .int a1, .int a2]) (d' := 4) F ha0 lmX1_119 rfl rfl (Nat.le_of_ble_eq_true rfl) (xfit (Nat.le_trans (Nat.le_of_ble_eq_true rfl) hdep)) dX1_wordKind_35 (fun hT z hz => wX1_spells (xnd F) (Nat.le_refl _) hT (a0 := a0) (a1 := 2) (a2 := a1) (a3 := a2) ha0 (by decide) z hz) (fun v6 m5 => ?_)
      refine xj_if_eq (tgt := 45) F dX1_wordKind_38 (by decide) ?_ ?_
      · refine xj_aload_n F 0 dX1_wordKind_45 rfl ?_
        refine xj_ldcS (i := 3) F (List.mem_of_getElem? (i := 3) rfl) dX1_wordKind_46 ?_
        refine xj_iload_n F 1 dX1_wordKind_48 rfl ?_
        refine xj_iload_n F 2 dX1_wordKind_49 rfl ?_
        refine xj_callVI (b := a0) (As := [.ref (G.1.2.1 3), .int a1, .int a2]) (d' := 4) F ha0 lmX1_119 rfl rfl (Nat.le_of_ble_eq_true rfl) (xfit (Nat.le_trans (Nat.le_of_ble_eq_true rfl) hdep)) dX1_wordKind_50 (fun hT z hz => wX1_spells (xnd F) (Nat.le_refl _) hT (a0 := a0) (a1 := 3) (a2 := a1) (a3 := a2) ha0 (by decide) z hz) (fun v8 m7 => ?_)
        refine xj_if_eq (tgt := 60) F dX1_wordKind_53 (by decide) ?_ ?_
        · refine xj_aload_n F 0 dX1_wordKind_60 rfl ?_
          refine xj_ldcS (i := 4) F (List.mem_of_getElem? (i := 4) rfl) dX1_wordKind_61 ?_
          refine xj_iload_n F 1 dX1_wordKind_63 rfl ?_
          refine xj_iload_n F 2 dX1_wordKind_64 rfl ?_
          refine xj_callVI (b := a0) (As := [.ref (G.1.2.1 4), .int a1, .int a2]) (d' := 4) F ha0 lmX1_119 rfl rfl (Nat.le_of_ble_eq_true rfl) (xfit (Nat.le_trans (Nat.le_of_ble_eq_true rfl) hdep)) dX1_wordKind_65 (fun hT z hz => wX1_spells (xnd F) (Nat.le_refl _) hT (a0 := a0) (a1 := 4) (a2 := a1) (a3 := a2) ha0 (by decide) z hz) (fun v10 m9 => ?_)
          refine xj_if_eq (tgt := 75) F dX1_wordKind_68 (by decide) ?_ ?_
          · refine xj_aload_n F 0 dX1_wordKind_75 rfl ?_
            refine xj_ldcS (i := 5) F (List.mem_of_getElem? (i := 5) rfl) dX1_wordKind_76 ?_
            refine xj_iload_n F 1 dX1_wordKind_78 rfl ?_
            refine xj_iload_n F 2 dX1_wordKind_79 rfl ?_
            refine xj_callVI (b := a0) (As := [.ref (G.1.2.1 5), .int a1, .int a2]) (d' := 4) F ha0 lmX1_119 rfl rfl (Nat.le_of_ble_eq_true rfl) (xfit (Nat.le_trans (Nat.le_of_ble_eq_true rfl) hdep)) dX1_wordKind_80 (fun hT z hz => wX1_spells (xnd F) (Nat.le_refl _) hT (a0 := a0) (a1 := 5) (a2 := a1) (a3 := a2) ha0 (by decide) z hz) (fun v12 m11 => ?_)
            refine xj_if_eq (tgt := 90) F dX1_wordKind_83 (by decide) ?_ ?_
            · refine xj_aload_n F 0 dX1_wordKind_90 rfl ?_
              refine xj_ldcS (i := 6) F (List.mem_of_getElem? (i := 6) rfl) dX1_wordKind_91 ?_
              refine xj_iload_n F 1 dX1_wordKind_93 rfl ?_
              refine xj_iload_n F 2 dX1_wordKind_94 rfl ?_
              refine xj_callVI (b := a0) (As := [.ref (G.1.2.1 6), .int a1, .int a2]) (d' := 4) F ha0 lmX1_119 rfl rfl (Nat.le_of_ble_eq_true rfl) (xfit (Nat.le_trans (Nat.le_of_ble_eq_true rfl) hdep)) dX1_wordKind_95 (fun hT z hz => wX1_spells (xnd F) (Nat.le_refl _) hT (a0 := a0) (a1 := 6) (a2 := a1) (a3 := a2) ha0 (by decide) z hz) (fun v14 m13 => ?_)
              refine xj_if_eq (tgt := 105) F dX1_wordKind_98 (by decide) ?_ ?_
              · refine xj_aload_n F 0 dX1_wordKind_105 rfl ?_
                refine xj_ldcS (i := 7) F (List.mem_of_getElem? (i := 7) rfl) dX1_wordKind_106 ?_
                refine xj_iload_n F 1 dX1_wordKind_108 rfl ?_
                refine xj_iload_n F 2 dX1_wordKind_109 rfl ?_
                refine xj_callVI (b := a0) (As := [.ref (G.1.2.1 7), .int a1, .int a2]) (d' := 4) F ha0 lmX1_119 rfl rfl (Nat.le_of_ble_eq_true rfl) (xfit (Nat.le_trans (Nat.le_of_ble_eq_true rfl) hdep)) dX1_wordKind_110 (fun hT z hz => wX1_spells (xnd F) (Nat.le_refl _) hT (a0 := a0) (a1 := 7) (a2 := a1) (a3 := a2) ha0 (by decide) z hz) (fun v16 m15 => ?_)
                refine xj_if_eq (tgt := 122) F dX1_wordKind_113 (by decide) ?_ ?_
                · refine xj_sipush F 256 dX1_wordKind_122 (by decide) ?_
                  exact xj_ret F rfl dX1_wordKind_125
                · refine xj_sipush F 267 dX1_wordKind_116 (by decide) ?_
                  refine xj_goto (tgt := 125) F dX1_wordKind_119 (by decide) ?_
                  exact xj_ret F rfl dX1_wordKind_125
              · refine xj_sipush F 266 dX1_wordKind_101 (by decide) ?_
                exact xj_ret F rfl dX1_wordKind_104
            · refine xj_sipush F 265 dX1_wordKind_86 (by decide) ?_
              exact xj_ret F rfl dX1_wordKind_89
          · refine xj_sipush F 264 dX1_wordKind_71 (by decide) ?_
            exact xj_ret F rfl dX1_wordKind_74
        · refine xj_sipush F 263 dX1_wordKind_56 (by decide) ?_
          exact xj_ret F rfl dX1_wordKind_59
      · refine xj_sipush F 262 dX1_wordKind_41 (by decide) ?_
        exact xj_ret F rfl dX1_wordKind_44
    · refine xj_sipush F 261 dX1_wordKind_26 (by decide) ?_
      exact xj_ret F rfl dX1_wordKind_29
  · refine xj_sipush F 260 dX1_wordKind_11 (by decide) ?_
    exact xj_ret F rfl dX1_wordKind_14
set_option maxRecDepth 20000 in
set_option maxHeartbeats 4000000 in
theorem jX1_isLetter_24 {G : XG} {l : Launch} {d : Nat} {X : XX} (F : xF (xE G d) G X mX1_isLetter) (hdep : 0 ≤ d) : ∀ (m0 : XM), xJ (xE G d) (xQ xrI G X mX1_isLetter) G l X mX1_isLetter 24 [] [] m0 (fX1_isLetter_24 (xln G)  m0) := by
  intro m0
  unfold fX1_isLetter_24
  refine xj_iconst F 1 dX1_isLetter_24 (by decide) ?_
  refine xj_goto (tgt := 29) F dX1_isLetter_25 (by decide) ?_
  exact xj_retZ F rfl rfl dX1_isLetter_29
set_option maxRecDepth 20000 in
set_option maxHeartbeats 4000000 in
theorem jX1_isLetter_28 {G : XG} {l : Launch} {d : Nat} {X : XX} (F : xF (xE G d) G X mX1_isLetter) (hdep : 0 ≤ d) : ∀ (m0 : XM), xJ (xE G d) (xQ xrI G X mX1_isLetter) G l X mX1_isLetter 28 [] [] m0 (fX1_isLetter_28 (xln G)  m0) := by
  intro m0
  unfold fX1_isLetter_28
  refine xj_iconst F 0 dX1_isLetter_28 (by decide) ?_
  exact xj_retZ F rfl rfl dX1_isLetter_29
set_option maxRecDepth 20000 in
set_option maxHeartbeats 4000000 in
theorem jX1_isLetter_12 {G : XG} {l : Launch} {d : Nat} {X : XX} (F : xF (xE G d) G X mX1_isLetter) (hdep : 0 ≤ d) : ∀ (x1 : Int32) (m0 : XM), xJ (xE G d) (xQ xrI G X mX1_isLetter) G l X mX1_isLetter 12 [(1, .int x1)] [] m0 (fX1_isLetter_12 (xln G) x1 m0) := by
  intro x1 m0
  unfold fX1_isLetter_12
  refine xj_iload_n F 0 dX1_isLetter_12 rfl ?_
  refine xj_bipush F 65 dX1_isLetter_13 (by decide) ?_
  refine xj_icmp_lt (tgt := 28) F dX1_isLetter_15 (by decide) ?_ ?_
  · refine xj_sub (lv' := []) [] rfl ?_
    exact jX1_isLetter_28 F hdep m0
  · refine xj_iload_n F 0 dX1_isLetter_18 rfl ?_
    refine xj_bipush F 90 dX1_isLetter_19 (by decide) ?_
    refine xj_icmp_gt (tgt := 28) F dX1_isLetter_21 (by decide) ?_ ?_
    · refine xj_sub (lv' := []) [] rfl ?_
      exact jX1_isLetter_28 F hdep m0
    · refine xj_sub (lv' := []) [] rfl ?_
      exact jX1_isLetter_24 F hdep m0
set_option maxRecDepth 20000 in
set_option maxHeartbeats 4000000 in
theorem wX1_isLetter {G : XG} {l : Launch} {d : Nat} (hn : xN G) (hdep : 0 ≤ d) {m0 : XM} (hT : xT G m0) {a0 : Nat} {a1 : Int32} (ha0 : isa G a0 1) : ∀ z, fX1_isLetter (xln G) a0 a1 m0 = some z → xMet G l mX1_isLetter d [.ref (xad G a0), .int a1] m0 (xrI z) := by
  refine xMet_of (by decide +kernel) hn hT (Nat.le_of_ble_eq_true rfl) (fun X F => ?_)
  refine xj_sub (lv' := [(0, .ref (xad G a0)), (1, .int a1)]) [0, 1] rfl ?_
  unfold fX1_isLetter
  refine xj_iload_n F 1 dX1_isLetter_0 rfl ?_
  refine xj_bipush F 97 dX1_isLetter_1 (by decide) ?_
  refine xj_icmp_lt (tgt := 12) F dX1_isLetter_3 (by decide) ?_ ?_
  · refine xj_sub (lv' := [(1, .int a1)]) [1] rfl ?_
    exact jX1_isLetter_12 F hdep a1 m0
  · refine xj_iload_n F 1 dX1_isLetter_6 rfl ?_
    refine xj_bipush F 122 dX1_isLetter_7 (by decide) ?_
    refine xj_icmp_le (tgt := 24) F dX1_isLetter_9 (by decide) ?_ ?_
    · refine xj_sub (lv' := []) [] rfl ?_
      exact jX1_isLetter_24 F hdep m0
    · refine xj_sub (lv' := [(1, .int a1)]) [1] rfl ?_
      exact jX1_isLetter_12 F hdep a1 m0
set_option maxRecDepth 20000 in
set_option maxHeartbeats 4000000 in
theorem jX1_standsAlone_25 {G : XG} {l : Launch} {d : Nat} {X : XX} (F : xF (xE G d) G X mX1_standsAlone) (hdep : 1 ≤ d) : ∀ (m0 : XM), xJ (xE G d) (xQ xrI G X mX1_standsAlone) G l X mX1_standsAlone 25 [] [] m0 (fX1_standsAlone_25 (xln G)  m0) := by
  intro m0
  unfold fX1_standsAlone_25
  refine xj_iconst F 1 dX1_standsAlone_25 (by decide) ?_
  refine xj_goto (tgt := 30) F dX1_standsAlone_26 (by decide) ?_
  exact xj_retZ F rfl rfl dX1_standsAlone_30
set_option maxRecDepth 20000 in
set_option maxHeartbeats 4000000 in
theorem wX1_standsAlone {G : XG} {l : Launch} {d : Nat} (hn : xN G) (hdep : 1 ≤ d) {m0 : XM} (hT : xT G m0) {a0 : Nat} {a1 : Int32} (ha0 : isa G a0 1) : ∀ z, fX1_standsAlone (xln G) a0 a1 m0 = some z → xMet G l mX1_standsAlone d [.ref (xad G a0), .int a1] m0 (xrI z) := by
  refine xMet_of (by decide +kernel) hn hT (Nat.le_of_ble_eq_true rfl) (fun X F => ?_)
  refine xj_sub (lv' := [(0, .ref (xad G a0)), (1, .int a1)]) [0, 1] rfl ?_
  unfold fX1_standsAlone
  refine xj_iload_n F 1 dX1_standsAlone_0 rfl ?_
  refine xj_iconst F 1 dX1_standsAlone_1 (by decide) ?_
  refine xj_iadd F dX1_standsAlone_2 (fun v1 => ?_)
  refine xj_aload_n F 0 dX1_standsAlone_3 rfl ?_
  refine xj_get F ha0 lgX1_82 dX1_standsAlone_4 (fun v2 => ?_)
  refine xj_icmp_ge (tgt := 25) F dX1_standsAlone_7 (by decide) ?_ ?_
  · refine xj_sub (lv' := []) [] rfl ?_
    exact jX1_standsAlone_25 F hdep m0
  · refine xj_aload_n F 0 dX1_standsAlone_10 rfl ?_
    refine xj_aload_n F 0 dX1_standsAlone_11 rfl ?_
    refine xj_getR F ha0 lgX1_28 dX1_standsAlone_12 (fun u3 hu3 => ?_)
    refine xj_iload_n F 1 dX1_standsAlone_15 rfl ?_
    refine xj_iconst F 1 dX1_standsAlone_16 (by decide) ?_
    refine xj_iadd F dX1_standsAlone_17 (fun v4 => ?_)
    refine xj_iald F hu3 dX1_standsAlone_18 (fun v5 => ?_)
    refine xj_callVI (b := a0) (As := [.int v5]) (d' := 0) F ha0 lmX1_108 rfl rfl (Nat.le_of_ble_eq_true rfl) (xfit (Nat.le_trans (Nat.le_of_ble_eq_true rfl) hdep)) dX1_standsAlone_19 (fun hT z hz => wX1_isLetter (xnd F) (Nat.le_refl _) hT (a0 := a0) (a1 := v5) ha0 z hz) (fun v7 m6 => ?_)
    refine xj_if_ne (tgt := 29) F dX1_standsAlone_22 (by decide) ?_ ?_
    · refine xj_iconst F 0 dX1_standsAlone_29 (by decide) ?_
      exact xj_retZ F rfl rfl dX1_standsAlone_30
    · refine xj_sub (lv' := []) [] rfl ?_
      exact jX1_standsAlone_25 F hdep m6
set_option maxRecDepth 20000 in
set_option maxHeartbeats 4000000 in
theorem jX1_cutWord_71 {G : XG} {l : Launch} {d : Nat} {X : XX} (F : xF (xE G d) G X mX1_cutWord) (hdep : 6 ≤ d) : ∀ (q0 : Nat) (x1 : Int32) (x2 : Int32) (p0 : Nat) (s1 : Int32) (m0 : XM), isa G q0 1 → isa G p0 1 → xJ (xE G d) (xQ xrI G X mX1_cutWord) G l X mX1_cutWord 71 [(0, .ref (xad G q0)), (1, .int x1), (2, .int x2)] [.int s1, .ref (xad G p0)] m0 (fX1_cutWord_71 (xln G) q0 x1 x2 p0 s1 m0) := by
  intro q0 x1 x2 p0 s1 m0 hq0 hp0
  unfold fX1_cutWord_71
  refine xj_iload_n F 1 dX1_cutWord_71 rfl ?_
  refine xj_aload_n F 0 dX1_cutWord_72 rfl ?_
  refine xj_getR F hq0 lgX1_28 dX1_cutWord_73 (fun u1 hu1 => ?_)
  refine xj_iload_n F 1 dX1_cutWord_76 rfl ?_
  refine xj_iald F hu1 dX1_cutWord_77 (fun v2 => ?_)
  refine xj_bipush F 97 dX1_cutWord_78 (by decide) ?_
  refine xj_isub F dX1_cutWord_80 (fun v3 => ?_)
  refine xj_callVV (b := p0) (As := [.int s1, .int x1, .int v3]) (d' := 0) F hp0 lmX1_92 rfl rfl (Nat.le_of_ble_eq_true rfl) (xfit (Nat.le_trans (Nat.le_of_ble_eq_true rfl) hdep)) dX1_cutWord_81 (fun hT z hz => wX1_putToken (xnd F) (Nat.le_refl _) hT (a0 := p0) (a1 := s1) (a2 := x1) (a3 := v3) hp0 z hz) (fun m4 => ?_)
  refine xj_iload_n F 2 dX1_cutWord_84 rfl ?_
  exact xj_ret F rfl dX1_cutWord_85
set_option maxRecDepth 20000 in
set_option maxHeartbeats 4000000 in
theorem jX1_cutWord_31 {G : XG} {l : Launch} {d : Nat} {X : XX} (F : xF (xE G d) G X mX1_cutWord) (hdep : 6 ≤ d) : ∀ (q0 : Nat) (x1 : Int32) (x2 : Int32) (m0 : XM), isa G q0 1 → xJ (xE G d) (xQ xrI G X mX1_cutWord) G l X mX1_cutWord 31 [(0, .ref (xad G q0)), (1, .int x1), (2, .int x2)] [] m0 (fX1_cutWord_31 (xln G) q0 x1 x2 m0) := by
  intro q0 x1 x2 m0 hq0
  unfold fX1_cutWord_31
  refine xj_iload_n F 2 dX1_cutWord_31 rfl ?_
  refine xj_iload_n F 1 dX1_cutWord_32 rfl ?_
  refine xj_iconst F 1 dX1_cutWord_33 (by decide) ?_
  refine xj_iadd F dX1_cutWord_34 (fun v1 => ?_)
  refine xj_icmp_le (tgt := 53) F dX1_cutWord_35 (by decide) ?_ ?_
  · refine xj_aload_n F 0 dX1_cutWord_53 rfl ?_
    refine xj_aload_n F 0 dX1_cutWord_54 rfl ?_
    refine xj_iload_n F 1 dX1_cutWord_55 rfl ?_
    refine xj_callVI (b := q0) (As := [.int x1]) (d' := 1) F hq0 lmX1_111 rfl rfl (Nat.le_of_ble_eq_true rfl) (xfit (Nat.le_trans (Nat.le_of_ble_eq_true rfl) hdep)) dX1_cutWord_56 (fun hT z hz => wX1_standsAlone (xnd F) (Nat.le_refl _) hT (a0 := q0) (a1 := x1) hq0 z hz) (fun v3 m2 => ?_)
    refine xj_if_eq (tgt := 68) F dX1_cutWord_59 (by decide) ?_ ?_
    · refine xj_sipush F 256 dX1_cutWord_68 (by decide) ?_
      exact jX1_cutWord_71 F hdep q0 x1 x2 q0 256 m2 hq0 hq0
    · refine xj_sipush F 258 dX1_cutWord_62 (by decide) ?_
      refine xj_goto (tgt := 71) F dX1_cutWord_65 (by decide) ?_
      exact jX1_cutWord_71 F hdep q0 x1 x2 q0 258 m2 hq0 hq0
  · refine xj_aload_n F 0 dX1_cutWord_38 rfl ?_
    refine xj_aload_n F 0 dX1_cutWord_39 rfl ?_
    refine xj_iload_n F 1 dX1_cutWord_40 rfl ?_
    refine xj_iload_n F 2 dX1_cutWord_41 rfl ?_
    refine xj_callVI (b := q0) (As := [.int x1, .int x2]) (d' := 5) F hq0 lmX1_114 rfl rfl (Nat.le_of_ble_eq_true rfl) (xfit (Nat.le_trans (Nat.le_of_ble_eq_true rfl) hdep)) dX1_cutWord_42 (fun hT z hz => wX1_wordKind (xnd F) (Nat.le_refl _) hT (a0 := q0) (a1 := x1) (a2 := x2) hq0 z hz) (fun v5 m4 => ?_)
    refine xj_iload_n F 1 dX1_cutWord_45 rfl ?_
    refine xj_iconst F 0 dX1_cutWord_46 (by decide) ?_
    refine xj_callVV (b := q0) (As := [.int v5, .int x1, .int 0]) (d' := 0) F hq0 lmX1_92 rfl rfl (Nat.le_of_ble_eq_true rfl) (xfit (Nat.le_trans (Nat.le_of_ble_eq_true rfl) hdep)) dX1_cutWord_47 (fun hT z hz => wX1_putToken (xnd F) (Nat.le_refl _) hT (a0 := q0) (a1 := v5) (a2 := x1) (a3 := 0) hq0 z hz) (fun m6 => ?_)
    refine xj_goto (tgt := 84) F dX1_cutWord_50 (by decide) ?_
    refine xj_iload_n F 2 dX1_cutWord_84 rfl ?_
    exact xj_ret F rfl dX1_cutWord_85
set_option maxRecDepth 20000 in
set_option maxHeartbeats 4000000 in
theorem jX1_cutWord_4 {G : XG} {l : Launch} {d : Nat} {X : XX} (F : xF (xE G d) G X mX1_cutWord) (hdep : 6 ≤ d) : ∀ (n : Nat) (q0 : Nat) (x1 : Int32) (x2 : Int32) (m0 : XM), isa G q0 1 → xJ (xE G d) (xQ xrI G X mX1_cutWord) G l X mX1_cutWord 4 [(0, .ref (xad G q0)), (1, .int x1), (2, .int x2)] [] m0 (fX1_cutWord_4 (xln G) n q0 x1 x2 m0) := by
  intro n
  induction n with
  | zero => intro q0 x1 x2 m0 hq0; exact xj_none
  | succ n hr4 =>
    intro q0 x1 x2 m0 hq0
    unfold fX1_cutWord_4
    generalize hrg4 : (fun q0 x1 x2 m0 => fX1_cutWord_4 (xln G) n q0 x1 x2 m0) = r4
    have hr4 : ∀ (q0 : Nat) (x1 : Int32) (x2 : Int32) (m0 : XM), isa G q0 1 → xJ (xE G d) (xQ xrI G X mX1_cutWord) G l X mX1_cutWord 4 [(0, .ref (xad G q0)), (1, .int x1), (2, .int x2)] [] m0 (r4 q0 x1 x2 m0) := by
      subst hrg4
      exact hr4
    clear hrg4
    refine xj_eq (xv_eq _ _) ?_
    refine xj_iload_n F 2 dX1_cutWord_4 rfl ?_
    refine xj_aload_n F 0 dX1_cutWord_5 rfl ?_
    refine xj_get F hq0 lgX1_82 dX1_cutWord_6 (fun v1 => ?_)
    refine xj_icmp_ge (tgt := 31) F dX1_cutWord_9 (by decide) ?_ ?_
    · exact jX1_cutWord_31 F hdep q0 x1 x2 m0 hq0
    · refine xj_aload_n F 0 dX1_cutWord_12 rfl ?_
      refine xj_aload_n F 0 dX1_cutWord_13 rfl ?_
      refine xj_getR F hq0 lgX1_28 dX1_cutWord_14 (fun u2 hu2 => ?_)
      refine xj_iload_n F 2 dX1_cutWord_17 rfl ?_
      refine xj_iald F hu2 dX1_cutWord_18 (fun v3 => ?_)
      refine xj_callVI (b := q0) (As := [.int v3]) (d' := 0) F hq0 lmX1_102 rfl rfl (Nat.le_of_ble_eq_true rfl) (xfit (Nat.le_trans (Nat.le_of_ble_eq_true rfl) hdep)) dX1_cutWord_19 (fun hT z hz => wX1_isSmall (xnd F) (Nat.le_refl _) hT (a0 := q0) (a1 := v3) hq0 z hz) (fun v5 m4 => ?_)
      refine xj_if_eq (tgt := 31) F dX1_cutWord_22 (by decide) ?_ ?_
      · exact jX1_cutWord_31 F hdep q0 x1 x2 m4 hq0
      · refine xj_iinc F 2 1 (fun v6 => [(2, .int v6), (0, .ref (xad G q0)), (1, .int x1)]) dX1_cutWord_25 rfl (by decide) (by decide) (fun _ => rfl) (fun v6 => ?_)
        refine xj_goto (tgt := 4) F dX1_cutWord_28 (by decide) ?_
        refine xj_sub (lv' := [(0, .ref (xad G q0)), (1, .int x1), (2, .int v6)]) [1, 2, 0] rfl ?_
        exact hr4 q0 x1 v6 m4 hq0
set_option maxRecDepth 20000 in
set_option maxHeartbeats 4000000 in
theorem wX1_cutWord {G : XG} {l : Launch} {d : Nat} (hn : xN G) (hdep : 6 ≤ d) {m0 : XM} (hT : xT G m0) {a0 : Nat} {a1 : Int32} (ha0 : isa G a0 1) : ∀ z, fX1_cutWord (xln G) a0 a1 m0 = some z → xMet G l mX1_cutWord d [.ref (xad G a0), .int a1] m0 (xrI z) := by
  refine xMet_of (by decide +kernel) hn hT (Nat.le_of_ble_eq_true rfl) (fun X F => ?_)
  refine xj_sub (lv' := [(0, .ref (xad G a0)), (1, .int a1)]) [0, 1] rfl ?_
  unfold fX1_cutWord
  refine xj_iload_n F 1 dX1_cutWord_0 rfl ?_
  refine xj_iconst F 1 dX1_cutWord_1 (by decide) ?_
  refine xj_iadd F dX1_cutWord_2 (fun v1 => ?_)
  refine xj_istore_n (lv' := [(2, .int v1), (0, .ref (xad G a0)), (1, .int a1)]) F dX1_cutWord_3 (by decide) rfl ?_
  refine xj_sub (lv' := [(0, .ref (xad G a0)), (1, .int a1), (2, .int v1)]) [1, 2, 0] rfl ?_
  exact jX1_cutWord_4 F hdep XF a0 a1 v1 m0 ha0
set_option maxRecDepth 20000 in
set_option maxHeartbeats 4000000 in
theorem jX1_cutToken_85 {G : XG} {l : Launch} {d : Nat} {X : XX} (F : xF (xE G d) G X mX1_cutToken) (hdep : 7 ≤ d) : ∀ (x1 : Int32) (m0 : XM), xJ (xE G d) (xQ xrI G X mX1_cutToken) G l X mX1_cutToken 85 [(1, .int x1)] [] m0 (fX1_cutToken_85 (xln G) x1 m0) := by
  intro x1 m0
  unfold fX1_cutToken_85
  refine xj_iload_n F 0 dX1_cutToken_85 rfl ?_
  refine xj_iconst F 1 dX1_cutToken_86 (by decide) ?_
  refine xj_iadd F dX1_cutToken_87 (fun v1 => ?_)
  exact xj_ret F rfl dX1_cutToken_88
set_option maxRecDepth 20000 in
set_option maxHeartbeats 4000000 in
theorem jX1_cutToken_67 {G : XG} {l : Launch} {d : Nat} {X : XX} (F : xF (xE G d) G X mX1_cutToken) (hdep : 7 ≤ d) : ∀ (x1 : Int32) (x2 : Int32) (p0 : Nat) (s1 : Int32) (m0 : XM), isa G p0 1 → xJ (xE G d) (xQ xrI G X mX1_cutToken) G l X mX1_cutToken 67 [(1, .int x1), (2, .int x2)] [.int s1, .ref (xad G p0)] m0 (fX1_cutToken_67 (xln G) x1 x2 p0 s1 m0) := by
  intro x1 x2 p0 s1 m0 hp0
  unfold fX1_cutToken_67
  refine xj_iload_n F 0 dX1_cutToken_67 rfl ?_
  refine xj_iload_n F 1 dX1_cutToken_68 rfl ?_
  refine xj_bipush F 65 dX1_cutToken_69 (by decide) ?_
  refine xj_isub F dX1_cutToken_71 (fun v1 => ?_)
  refine xj_callVV (b := p0) (As := [.int s1, .int x1, .int v1]) (d' := 0) F hp0 lmX1_92 rfl rfl (Nat.le_of_ble_eq_true rfl) (xfit (Nat.le_trans (Nat.le_of_ble_eq_true rfl) hdep)) dX1_cutToken_72 (fun hT z hz => wX1_putToken (xnd F) (Nat.le_refl _) hT (a0 := p0) (a1 := s1) (a2 := x1) (a3 := v1) hp0 z hz) (fun m2 => ?_)
  refine xj_goto (tgt := 85) F dX1_cutToken_75 (by decide) ?_
  refine xj_sub (lv' := [(1, .int x1)]) [0] rfl ?_
  exact jX1_cutToken_85 F hdep x1 m2
set_option maxRecDepth 20000 in
set_option maxHeartbeats 4000000 in
theorem jX1_cutToken_64 {G : XG} {l : Launch} {d : Nat} {X : XX} (F : xF (xE G d) G X mX1_cutToken) (hdep : 7 ≤ d) : ∀ (x1 : Int32) (x2 : Int32) (p0 : Nat) (m0 : XM), isa G p0 1 → xJ (xE G d) (xQ xrI G X mX1_cutToken) G l X mX1_cutToken 64 [(1, .int x1), (2, .int x2)] [.ref (xad G p0)] m0 (fX1_cutToken_64 (xln G) x1 x2 p0 m0) := by
  intro x1 x2 p0 m0 hp0
  unfold fX1_cutToken_64
  refine xj_sipush F 256 dX1_cutToken_64 (by decide) ?_
  exact jX1_cutToken_67 F hdep x1 x2 p0 256 m0 hp0
set_option maxRecDepth 20000 in
set_option maxHeartbeats 4000000 in
theorem wX1_cutToken {G : XG} {l : Launch} {d : Nat} (hn : xN G) (hdep : 7 ≤ d) {m0 : XM} (hT : xT G m0) {a0 : Nat} {a1 : Int32} (ha0 : isa G a0 1) : ∀ z, fX1_cutToken (xln G) a0 a1 m0 = some z → xMet G l mX1_cutToken d [.ref (xad G a0), .int a1] m0 (xrI z) := by
  refine xMet_of (by decide +kernel) hn hT (Nat.le_of_ble_eq_true rfl) (fun X F => ?_)
  refine xj_sub (lv' := [(0, .ref (xad G a0)), (1, .int a1)]) [0, 1] rfl ?_
  unfold fX1_cutToken
  refine xj_aload_n F 0 dX1_cutToken_0 rfl ?_
  refine xj_getR F ha0 lgX1_28 dX1_cutToken_1 (fun u1 hu1 => ?_)
  refine xj_iload_n F 1 dX1_cutToken_4 rfl ?_
  refine xj_iald F hu1 dX1_cutToken_5 (fun v2 => ?_)
  refine xj_istore_n (lv' := [(2, .int v2), (0, .ref (xad G a0)), (1, .int a1)]) F dX1_cutToken_6 (by decide) rfl ?_
  refine xj_aload_n F 1 dX1_cutToken_7 rfl ?_
  refine xj_iload_n F 0 dX1_cutToken_8 rfl ?_
  refine xj_callVI (b := a0) (As := [.int v2]) (d' := 0) F ha0 lmX1_96 rfl rfl (Nat.le_of_ble_eq_true rfl) (xfit (Nat.le_trans (Nat.le_of_ble_eq_true rfl) hdep)) dX1_cutToken_9 (fun hT z hz => wX1_isDigit (xnd F) (Nat.le_refl _) hT (a0 := a0) (a1 := v2) ha0 z hz) (fun v4 m3 => ?_)
  refine xj_if_eq (tgt := 21) F dX1_cutToken_12 (by decide) ?_ ?_
  · refine xj_aload_n F 1 dX1_cutToken_21 rfl ?_
    refine xj_iload_n F 0 dX1_cutToken_22 rfl ?_
    refine xj_callVI (b := a0) (As := [.int v2]) (d' := 0) F ha0 lmX1_102 rfl rfl (Nat.le_of_ble_eq_true rfl) (xfit (Nat.le_trans (Nat.le_of_ble_eq_true rfl) hdep)) dX1_cutToken_23 (fun hT z hz => wX1_isSmall (xnd F) (Nat.le_refl _) hT (a0 := a0) (a1 := v2) ha0 z hz) (fun v6 m5 => ?_)
    refine xj_if_eq (tgt := 35) F dX1_cutToken_26 (by decide) ?_ ?_
    · refine xj_aload_n F 1 dX1_cutToken_35 rfl ?_
      refine xj_iload_n F 0 dX1_cutToken_36 rfl ?_
      refine xj_callVI (b := a0) (As := [.int v2]) (d' := 0) F ha0 lmX1_108 rfl rfl (Nat.le_of_ble_eq_true rfl) (xfit (Nat.le_trans (Nat.le_of_ble_eq_true rfl) hdep)) dX1_cutToken_37 (fun hT z hz => wX1_isLetter (xnd F) (Nat.le_refl _) hT (a0 := a0) (a1 := v2) ha0 z hz) (fun v8 m7 => ?_)
      refine xj_if_eq (tgt := 78) F dX1_cutToken_40 (by decide) ?_ ?_
      · refine xj_aload_n F 1 dX1_cutToken_78 rfl ?_
        refine xj_iload_n F 0 dX1_cutToken_79 rfl ?_
        refine xj_iload_n F 2 dX1_cutToken_80 rfl ?_
        refine xj_iconst F 0 dX1_cutToken_81 (by decide) ?_
        refine xj_callVV (b := a0) (As := [.int v2, .int a1, .int 0]) (d' := 0) F ha0 lmX1_92 rfl rfl (Nat.le_of_ble_eq_true rfl) (xfit (Nat.le_trans (Nat.le_of_ble_eq_true rfl) hdep)) dX1_cutToken_82 (fun hT z hz => wX1_putToken (xnd F) (Nat.le_refl _) hT (a0 := a0) (a1 := v2) (a2 := a1) (a3 := 0) ha0 z hz) (fun m9 => ?_)
        refine xj_sub (lv' := [(1, .int a1)]) [2] rfl ?_
        exact jX1_cutToken_85 F hdep a1 m9
      · refine xj_aload_n F 1 dX1_cutToken_43 rfl ?_
        refine xj_iload_n F 0 dX1_cutToken_44 rfl ?_
        refine xj_bipush F 71 dX1_cutToken_45 (by decide) ?_
        refine xj_icmp_gt (tgt := 64) F dX1_cutToken_47 (by decide) ?_ ?_
        · refine xj_sub (lv' := [(1, .int a1), (2, .int v2)]) [2, 0] rfl ?_
          exact jX1_cutToken_64 F hdep a1 v2 a0 m7 ha0
        · refine xj_aload_n F 1 dX1_cutToken_50 rfl ?_
          refine xj_iload_n F 2 dX1_cutToken_51 rfl ?_
          refine xj_callVI (b := a0) (As := [.int a1]) (d' := 1) F ha0 lmX1_111 rfl rfl (Nat.le_of_ble_eq_true rfl) (xfit (Nat.le_trans (Nat.le_of_ble_eq_true rfl) hdep)) dX1_cutToken_52 (fun hT z hz => wX1_standsAlone (xnd F) (Nat.le_refl _) hT (a0 := a0) (a1 := a1) ha0 z hz) (fun v11 m10 => ?_)
          refine xj_if_eq (tgt := 64) F dX1_cutToken_55 (by decide) ?_ ?_
          · refine xj_sub (lv' := [(1, .int a1), (2, .int v2)]) [2, 0] rfl ?_
            exact jX1_cutToken_64 F hdep a1 v2 a0 m10 ha0
          · refine xj_sipush F 257 dX1_cutToken_58 (by decide) ?_
            refine xj_goto (tgt := 67) F dX1_cutToken_61 (by decide) ?_
            refine xj_sub (lv' := [(1, .int a1), (2, .int v2)]) [2, 0] rfl ?_
            exact jX1_cutToken_67 F hdep a1 v2 a0 257 m10 ha0
    · refine xj_aload_n F 1 dX1_cutToken_29 rfl ?_
      refine xj_iload_n F 2 dX1_cutToken_30 rfl ?_
      refine xj_callVI (b := a0) (As := [.int a1]) (d' := 6) F ha0 lmX1_105 rfl rfl (Nat.le_of_ble_eq_true rfl) (xfit (Nat.le_trans (Nat.le_of_ble_eq_true rfl) hdep)) dX1_cutToken_31 (fun hT z hz => wX1_cutWord (xnd F) (Nat.le_refl _) hT (a0 := a0) (a1 := a1) ha0 z hz) (fun v13 m12 => ?_)
      exact xj_ret F rfl dX1_cutToken_34
  · refine xj_aload_n F 1 dX1_cutToken_15 rfl ?_
    refine xj_iload_n F 2 dX1_cutToken_16 rfl ?_
    refine xj_callVI (b := a0) (As := [.int a1]) (d' := 1) F ha0 lmX1_99 rfl rfl (Nat.le_of_ble_eq_true rfl) (xfit (Nat.le_trans (Nat.le_of_ble_eq_true rfl) hdep)) dX1_cutToken_17 (fun hT z hz => wX1_cutNumber (xnd F) (Nat.le_refl _) hT (a0 := a0) (a1 := a1) ha0 z hz) (fun v15 m14 => ?_)
    exact xj_ret F rfl dX1_cutToken_20
set_option maxRecDepth 20000 in
set_option maxHeartbeats 4000000 in
theorem jX1_cutTokens_65 {G : XG} {l : Launch} {d : Nat} {X : XX} (F : xF (xE G d) G X mX1_cutTokens) (hdep : 8 ≤ d) {r31 : Nat → Int32 → Int32 → XM → Option XM} (hr31 : ∀ (q0 : Nat) (x3 : Int32) (x4 : Int32) (m0 : XM), isa G q0 1 → xJ (xE G d) (xQ xrV G X mX1_cutTokens) G l X mX1_cutTokens 31 [(0, .ref (xad G q0)), (3, .int x3), (4, .int x4)] [] m0 (r31 q0 x3 x4 m0)) : ∀ (q0 : Nat) (x3 : Int32) (x4 : Int32) (m0 : XM), isa G q0 1 → xJ (xE G d) (xQ xrV G X mX1_cutTokens) G l X mX1_cutTokens 65 [(0, .ref (xad G q0)), (3, .int x3), (4, .int x4)] [] m0 (fX1_cutTokens_65 (xln G) r31 q0 x3 x4 m0) := by
  intro q0 x3 x4 m0 hq0
  unfold fX1_cutTokens_65
  refine xj_iinc F 2 1 (fun v1 => [(4, .int v1), (0, .ref (xad G q0)), (3, .int x3)]) dX1_cutTokens_65 rfl (by decide) (by decide) (fun _ => rfl) (fun v1 => ?_)
  refine xj_goto (tgt := 31) F dX1_cutTokens_68 (by decide) ?_
  refine xj_sub (lv' := [(0, .ref (xad G q0)), (3, .int x3), (4, .int v1)]) [1, 2, 0] rfl ?_
  exact hr31 q0 x3 v1 m0 hq0
set_option maxRecDepth 20000 in
set_option maxHeartbeats 4000000 in
theorem jX1_cutTokens_74 {G : XG} {l : Launch} {d : Nat} {X : XX} (F : xF (xE G d) G X mX1_cutTokens) (hdep : 8 ≤ d) : ∀ (n : Nat) (q0 : Nat) (x4 : Int32) (m0 : XM), isa G q0 1 → xJ (xE G d) (xQ xrV G X mX1_cutTokens) G l X mX1_cutTokens 74 [(0, .ref (xad G q0)), (4, .int x4)] [] m0 (fX1_cutTokens_74 (xln G) n q0 x4 m0) := by
  intro n
  induction n with
  | zero => intro q0 x4 m0 hq0; exact xj_none
  | succ n hr74 =>
    intro q0 x4 m0 hq0
    unfold fX1_cutTokens_74
    generalize hrg74 : (fun q0 x4 m0 => fX1_cutTokens_74 (xln G) n q0 x4 m0) = r74
    have hr74 : ∀ (q0 : Nat) (x4 : Int32) (m0 : XM), isa G q0 1 → xJ (xE G d) (xQ xrV G X mX1_cutTokens) G l X mX1_cutTokens 74 [(0, .ref (xad G q0)), (4, .int x4)] [] m0 (r74 q0 x4 m0) := by
      subst hrg74
      exact hr74
    clear hrg74
    refine xj_eq (xv_eq _ _) ?_
    refine xj_iload F 1 dX1_cutTokens_74 rfl ?_
    refine xj_iconst F 2 dX1_cutTokens_76 (by decide) ?_
    refine xj_icmp_ge (tgt := 96) F dX1_cutTokens_77 (by decide) ?_ ?_
    · exact xj_retV F rfl dX1_cutTokens_96
    · refine xj_aload_n F 0 dX1_cutTokens_80 rfl ?_
      refine xj_iconst F (-1) dX1_cutTokens_81 (by decide) ?_
      refine xj_aload_n F 0 dX1_cutTokens_82 rfl ?_
      refine xj_get F hq0 lgX1_82 dX1_cutTokens_83 (fun v1 => ?_)
      refine xj_iconst F 0 dX1_cutTokens_86 (by decide) ?_
      refine xj_callVV (b := q0) (As := [.int (-1), .int v1, .int 0]) (d' := 0) F hq0 lmX1_92 rfl rfl (Nat.le_of_ble_eq_true rfl) (xfit (Nat.le_trans (Nat.le_of_ble_eq_true rfl) hdep)) dX1_cutTokens_87 (fun hT z hz => wX1_putToken (xnd F) (Nat.le_refl _) hT (a0 := q0) (a1 := (-1)) (a2 := v1) (a3 := 0) hq0 z hz) (fun m2 => ?_)
      refine xj_iinc F 1 1 (fun v3 => [(4, .int v3), (0, .ref (xad G q0))]) dX1_cutTokens_90 rfl (by decide) (by decide) (fun _ => rfl) (fun v3 => ?_)
      refine xj_goto (tgt := 74) F dX1_cutTokens_93 (by decide) ?_
      refine xj_sub (lv' := [(0, .ref (xad G q0)), (4, .int v3)]) [1, 0] rfl ?_
      exact hr74 q0 v3 m2 hq0
set_option maxRecDepth 20000 in
set_option maxHeartbeats 4000000 in
theorem jX1_cutTokens_31 {G : XG} {l : Launch} {d : Nat} {X : XX} (F : xF (xE G d) G X mX1_cutTokens) (hdep : 8 ≤ d) : ∀ (n : Nat) (q0 : Nat) (x3 : Int32) (x4 : Int32) (m0 : XM), isa G q0 1 → xJ (xE G d) (xQ xrV G X mX1_cutTokens) G l X mX1_cutTokens 31 [(0, .ref (xad G q0)), (3, .int x3), (4, .int x4)] [] m0 (fX1_cutTokens_31 (xln G) n q0 x3 x4 m0) := by
  intro n
  induction n with
  | zero => intro q0 x3 x4 m0 hq0; exact xj_none
  | succ n hr31 =>
    intro q0 x3 x4 m0 hq0
    unfold fX1_cutTokens_31
    generalize hrg31 : (fun q0 x3 x4 m0 => fX1_cutTokens_31 (xln G) n q0 x3 x4 m0) = r31
    have hr31 : ∀ (q0 : Nat) (x3 : Int32) (x4 : Int32) (m0 : XM), isa G q0 1 → xJ (xE G d) (xQ xrV G X mX1_cutTokens) G l X mX1_cutTokens 31 [(0, .ref (xad G q0)), (3, .int x3), (4, .int x4)] [] m0 (r31 q0 x3 x4 m0) := by
      subst hrg31
      exact hr31
    clear hrg31
    refine xj_eq (xv_eq _ _) ?_
    refine xj_iload F 2 dX1_cutTokens_31 rfl ?_
    refine xj_aload_n F 0 dX1_cutTokens_33 rfl ?_
    refine xj_get F hq0 lgX1_82 dX1_cutTokens_34 (fun v1 => ?_)
    refine xj_icmp_ge (tgt := 71) F dX1_cutTokens_37 (by decide) ?_ ?_
    · refine xj_iconst F 0 dX1_cutTokens_71 (by decide) ?_
      refine xj_istore (lv' := [(4, .int 0), (0, .ref (xad G q0)), (3, .int x3)]) F dX1_cutTokens_72 (by decide) rfl ?_
      refine xj_sub (lv' := [(0, .ref (xad G q0)), (4, .int 0)]) [1, 0] rfl ?_
      exact jX1_cutTokens_74 F hdep XF q0 0 m0 hq0
    · refine xj_iload F 2 dX1_cutTokens_40 rfl ?_
      refine xj_iload_n F 1 dX1_cutTokens_42 rfl ?_
      refine xj_icmp_lt (tgt := 65) F dX1_cutTokens_43 (by decide) ?_ ?_
      · exact jX1_cutTokens_65 F hdep hr31 q0 x3 x4 m0 hq0
      · refine xj_aload_n F 0 dX1_cutTokens_46 rfl ?_
        refine xj_getR F hq0 lgX1_28 dX1_cutTokens_47 (fun u2 hu2 => ?_)
        refine xj_iload F 2 dX1_cutTokens_50 rfl ?_
        refine xj_iald F hu2 dX1_cutTokens_52 (fun v3 => ?_)
        refine xj_bipush F 32 dX1_cutTokens_53 (by decide) ?_
        refine xj_icmp_eq (tgt := 65) F dX1_cutTokens_55 (by decide) ?_ ?_
        · exact jX1_cutTokens_65 F hdep hr31 q0 x3 x4 m0 hq0
        · refine xj_aload_n F 0 dX1_cutTokens_58 rfl ?_
          refine xj_iload F 2 dX1_cutTokens_59 rfl ?_
          refine xj_callVI (b := q0) (As := [.int x4]) (d' := 7) F hq0 lmX1_88 rfl rfl (Nat.le_of_ble_eq_true rfl) (xfit (Nat.le_trans (Nat.le_of_ble_eq_true rfl) hdep)) dX1_cutTokens_61 (fun hT z hz => wX1_cutToken (xnd F) (Nat.le_refl _) hT (a0 := q0) (a1 := x4) hq0 z hz) (fun v5 m4 => ?_)
          refine xj_istore_n (lv' := [(3, .int v5), (0, .ref (xad G q0)), (4, .int x4)]) F dX1_cutTokens_64 (by decide) rfl ?_
          refine xj_sub (lv' := [(0, .ref (xad G q0)), (3, .int v5), (4, .int x4)]) [1, 0, 2] rfl ?_
          exact jX1_cutTokens_65 F hdep hr31 q0 v5 x4 m4 hq0
set_option maxRecDepth 20000 in
set_option maxHeartbeats 4000000 in
theorem wX1_cutTokens {G : XG} {l : Launch} {d : Nat} (hn : xN G) (hdep : 8 ≤ d) {m0 : XM} (hT : xT G m0) {a0 : Nat} {a1 : Nat} {a2 : Int32} (ha0 : isa G a0 1) (ha1 : isa G a1 10) : ∀ z, fX1_cutTokens (xln G) a0 a1 a2 m0 = some z → xMet G l mX1_cutTokens d [.ref (xad G a0), .ref (xad G a1), .int a2] m0 (xrV z) := by
  refine xMet_of (by decide +kernel) hn hT (Nat.le_of_ble_eq_true rfl) (fun X F => ?_)
  refine xj_sub (lv' := [(0, .ref (xad G a0)), (1, .ref (xad G a1)), (2, .int a2)]) [0, 1, 2] rfl ?_
  unfold fX1_cutTokens
  refine xj_aload_n F 0 dX1_cutTokens_0 rfl ?_
  refine xj_aload_n F 1 dX1_cutTokens_1 rfl ?_
  refine xj_putR F ha0 lpX1_28 ha1 dX1_cutTokens_2 (fun m1 => ?_)
  refine xj_aload_n F 0 dX1_cutTokens_5 rfl ?_
  refine xj_iload_n F 2 dX1_cutTokens_6 rfl ?_
  refine xj_aload_n F 1 dX1_cutTokens_7 rfl ?_
  refine xj_alen F ha1 (by decide) dX1_cutTokens_8 (fun v2 => ?_)
  refine xj_sipush F 600 dX1_cutTokens_9 (by decide) ?_
  refine xj_callSI (As := [.int v2, .int 600]) (d' := 0) F lmX1_76 rfl rfl (Nat.le_of_ble_eq_true rfl) (xfit (Nat.le_trans (Nat.le_of_ble_eq_true rfl) hdep)) dX1_cutTokens_12 (fun hT z hz => wJ9_min_7cf53 (xnd F) (Nat.le_refl _) hT (a0 := v2) (a1 := 600)  z hz) (fun v4 m3 => ?_)
  refine xj_callSI (As := [.int a2, .int v4]) (d' := 0) F lmX1_76 rfl rfl (Nat.le_of_ble_eq_true rfl) (xfit (Nat.le_trans (Nat.le_of_ble_eq_true rfl) hdep)) dX1_cutTokens_15 (fun hT z hz => wJ9_min_7cf53 (xnd F) (Nat.le_refl _) hT (a0 := a2) (a1 := v4)  z hz) (fun v6 m5 => ?_)
  refine xj_put F ha0 lpX1_82 dX1_cutTokens_18 (fun m7 => ?_)
  refine xj_aload_n F 0 dX1_cutTokens_21 rfl ?_
  refine xj_iconst F 0 dX1_cutTokens_22 (by decide) ?_
  refine xj_put F ha0 lpX1_85 dX1_cutTokens_23 (fun m8 => ?_)
  refine xj_iconst F 0 dX1_cutTokens_26 (by decide) ?_
  refine xj_istore_n (lv' := [(3, .int 0), (0, .ref (xad G a0)), (1, .ref (xad G a1)), (2, .int a2)]) F dX1_cutTokens_27 (by decide) rfl ?_
  refine xj_iconst F 0 dX1_cutTokens_28 (by decide) ?_
  refine xj_istore (lv' := [(4, .int 0), (3, .int 0), (0, .ref (xad G a0)), (1, .ref (xad G a1)), (2, .int a2)]) F dX1_cutTokens_29 (by decide) rfl ?_
  refine xj_sub (lv' := [(0, .ref (xad G a0)), (3, .int 0), (4, .int 0)]) [2, 1, 0] rfl ?_
  exact jX1_cutTokens_31 F hdep XF a0 0 0 m8 ha0
set_option maxRecDepth 20000 in
set_option maxHeartbeats 4000000 in
theorem wX1_refuse {G : XG} {l : Launch} {d : Nat} (hn : xN G) (hdep : 0 ≤ d) {m0 : XM} (hT : xT G m0) {a0 : Nat} {a1 : Int32} (ha0 : isa G a0 1) : ∀ z, fX1_refuse (xln G) a0 a1 m0 = some z → xMet G l mX1_refuse d [.ref (xad G a0), .int a1] m0 (xrI z) := by
  refine xMet_of (by decide +kernel) hn hT (Nat.le_of_ble_eq_true rfl) (fun X F => ?_)
  refine xj_sub (lv' := [(0, .ref (xad G a0)), (1, .int a1)]) [0, 1] rfl ?_
  unfold fX1_refuse
  refine xj_aload_n F 0 dX1_refuse_0 rfl ?_
  refine xj_iload_n F 1 dX1_refuse_1 rfl ?_
  refine xj_put F ha0 lpX1_56 dX1_refuse_2 (fun m1 => ?_)
  refine xj_aload_n F 0 dX1_refuse_5 rfl ?_
  refine xj_aload_n F 0 dX1_refuse_6 rfl ?_
  refine xj_getR F ha0 lgX1_34 dX1_refuse_7 (fun u2 hu2 => ?_)
  refine xj_aload_n F 0 dX1_refuse_10 rfl ?_
  refine xj_get F ha0 lgX1_52 dX1_refuse_11 (fun v3 => ?_)
  refine xj_iald F hu2 dX1_refuse_14 (fun v4 => ?_)
  refine xj_put F ha0 lpX1_73 dX1_refuse_15 (fun m5 => ?_)
  refine xj_iconst F 0 dX1_refuse_18 (by decide) ?_
  exact xj_retZ F rfl rfl dX1_refuse_19
set_option maxRecDepth 20000 in
set_option maxHeartbeats 4000000 in
theorem wX1_take {G : XG} {l : Launch} {d : Nat} (hn : xN G) (hdep : 0 ≤ d) {m0 : XM} (hT : xT G m0) {a0 : Nat} {a1 : Int32} (ha0 : isa G a0 1) : ∀ z, fX1_take (xln G) a0 a1 m0 = some z → xMet G l mX1_take d [.ref (xad G a0), .int a1] m0 (xrI z) := by
  refine xMet_of (by decide +kernel) hn hT (Nat.le_of_ble_eq_true rfl) (fun X F => ?_)
  refine xj_sub (lv' := [(0, .ref (xad G a0)), (1, .int a1)]) [0, 1] rfl ?_
  unfold fX1_take
  refine xj_aload_n F 0 dX1_take_0 rfl ?_
  refine xj_getR F ha0 lgX1_31 dX1_take_1 (fun u1 hu1 => ?_)
  refine xj_aload_n F 0 dX1_take_4 rfl ?_
  refine xj_get F ha0 lgX1_52 dX1_take_5 (fun v2 => ?_)
  refine xj_iald F hu1 dX1_take_8 (fun v3 => ?_)
  refine xj_iload_n F 1 dX1_take_9 rfl ?_
  refine xj_icmp_eq (tgt := 15) F dX1_take_10 (by decide) ?_ ?_
  · refine xj_aload_n F 0 dX1_take_15 rfl ?_
    refine xj_dup F dX1_take_16 rfl ?_
    refine xj_get F ha0 lgX1_52 dX1_take_17 (fun v4 => ?_)
    refine xj_iconst F 1 dX1_take_20 (by decide) ?_
    refine xj_iadd F dX1_take_21 (fun v5 => ?_)
    refine xj_put F ha0 lpX1_52 dX1_take_22 (fun m6 => ?_)
    refine xj_iconst F 1 dX1_take_25 (by decide) ?_
    exact xj_retZ F rfl rfl dX1_take_26
  · refine xj_iconst F 0 dX1_take_13 (by decide) ?_
    exact xj_retZ F rfl rfl dX1_take_14
set_option maxRecDepth 20000 in
set_option maxHeartbeats 4000000 in
theorem wX1_mustTake {G : XG} {l : Launch} {d : Nat} (hn : xN G) (hdep : 0 ≤ d) {m0 : XM} (hT : xT G m0) {a0 : Nat} {a1 : Int32} (ha0 : isa G a0 1) : ∀ z, fX1_mustTake (xln G) a0 a1 m0 = some z → xMet G l mX1_mustTake d [.ref (xad G a0), .int a1] m0 (xrI z) := by
  refine xMet_of (by decide +kernel) hn hT (Nat.le_of_ble_eq_true rfl) (fun X F => ?_)
  refine xj_sub (lv' := [(0, .ref (xad G a0)), (1, .int a1)]) [0, 1] rfl ?_
  unfold fX1_mustTake
  refine xj_aload_n F 0 dX1_mustTake_0 rfl ?_
  refine xj_getR F ha0 lgX1_31 dX1_mustTake_1 (fun u1 hu1 => ?_)
  refine xj_aload_n F 0 dX1_mustTake_4 rfl ?_
  refine xj_get F ha0 lgX1_52 dX1_mustTake_5 (fun v2 => ?_)
  refine xj_iald F hu1 dX1_mustTake_8 (fun v3 => ?_)
  refine xj_iload_n F 1 dX1_mustTake_9 rfl ?_
  refine xj_icmp_eq (tgt := 33) F dX1_mustTake_10 (by decide) ?_ ?_
  · refine xj_aload_n F 0 dX1_mustTake_33 rfl ?_
    refine xj_dup F dX1_mustTake_34 rfl ?_
    refine xj_get F ha0 lgX1_52 dX1_mustTake_35 (fun v4 => ?_)
    refine xj_iconst F 1 dX1_mustTake_38 (by decide) ?_
    refine xj_iadd F dX1_mustTake_39 (fun v5 => ?_)
    refine xj_put F ha0 lpX1_52 dX1_mustTake_40 (fun m6 => ?_)
    refine xj_iconst F 1 dX1_mustTake_43 (by decide) ?_
    exact xj_retZ F rfl rfl dX1_mustTake_44
  · refine xj_aload_n F 0 dX1_mustTake_13 rfl ?_
    refine xj_iconst F 1 dX1_mustTake_14 (by decide) ?_
    refine xj_put F ha0 lpX1_56 dX1_mustTake_15 (fun m7 => ?_)
    refine xj_aload_n F 0 dX1_mustTake_18 rfl ?_
    refine xj_aload_n F 0 dX1_mustTake_19 rfl ?_
    refine xj_getR F ha0 lgX1_34 dX1_mustTake_20 (fun u8 hu8 => ?_)
    refine xj_aload_n F 0 dX1_mustTake_23 rfl ?_
    refine xj_get F ha0 lgX1_52 dX1_mustTake_24 (fun v9 => ?_)
    refine xj_iald F hu8 dX1_mustTake_27 (fun v10 => ?_)
    refine xj_put F ha0 lpX1_73 dX1_mustTake_28 (fun m11 => ?_)
    refine xj_iconst F 0 dX1_mustTake_31 (by decide) ?_
    exact xj_retZ F rfl rfl dX1_mustTake_32
set_option maxRecDepth 20000 in
set_option maxHeartbeats 4000000 in
theorem jX1_readHead_125 {G : XG} {l : Launch} {d : Nat} {X : XX} (F : xF (xE G d) G X mX1_readHead) (hdep : 1 ≤ d) : ∀ (q0 : Nat) (x1 : Int32) (x2 : Int32) (x3 : Int32) (m0 : XM), isa G q0 1 → xJ (xE G d) (xQ xrI G X mX1_readHead) G l X mX1_readHead 125 [(0, .ref (xad G q0)), (1, .int x1), (2, .int x2), (3, .int x3)] [] m0 (fX1_readHead_125 (xln G) q0 x1 x2 x3 m0) := by
  intro q0 x1 x2 x3 m0 hq0
  unfold fX1_readHead_125
  refine xj_aload_n F 0 dX1_readHead_125 rfl ?_
  refine xj_getR F hq0 lgX1_12 dX1_readHead_126 (fun u1 hu1 => ?_)
  refine xj_iload_n F 1 dX1_readHead_129 rfl ?_
  refine xj_iload_n F 2 dX1_readHead_130 rfl ?_
  refine xj_iload_n F 3 dX1_readHead_131 rfl ?_
  refine xj_callVV (b := u1) (As := [.int x1, .int x2, .int x3]) (d' := 0) F hu1 lmX1_162 rfl rfl (Nat.le_of_ble_eq_true rfl) (xfit (Nat.le_trans (Nat.le_of_ble_eq_true rfl) hdep)) dX1_readHead_132 (fun hT z hz => wX6_addUnit (xnd F) (Nat.le_refl _) hT (a0 := u1) (a1 := x1) (a2 := x2) (a3 := x3) hu1 z hz) (fun m2 => ?_)
  refine xj_aload_n F 0 dX1_readHead_135 rfl ?_
  refine xj_getR F hq0 lgX1_18 dX1_readHead_136 (fun u3 hu3 => ?_)
  refine xj_iload_n F 2 dX1_readHead_139 rfl ?_
  refine xj_iload_n F 1 dX1_readHead_140 rfl ?_
  refine xj_iast F hu3 dX1_readHead_141 (fun m4 => ?_)
  refine xj_aload_n F 0 dX1_readHead_142 rfl ?_
  refine xj_bipush F 123 dX1_readHead_143 (by decide) ?_
  refine xj_callVI (b := q0) (As := [.int 123]) (d' := 0) F hq0 lmX1_67 rfl rfl (Nat.le_of_ble_eq_true rfl) (xfit (Nat.le_trans (Nat.le_of_ble_eq_true rfl) hdep)) dX1_readHead_145 (fun hT z hz => wX1_mustTake (xnd F) (Nat.le_refl _) hT (a0 := q0) (a1 := 123) hq0 z hz) (fun v6 m5 => ?_)
  exact xj_retB F rfl dX1_readHead_148
set_option maxRecDepth 20000 in
set_option maxHeartbeats 4000000 in
theorem wX1_readHead {G : XG} {l : Launch} {d : Nat} (hn : xN G) (hdep : 1 ≤ d) {m0 : XM} (hT : xT G m0) {a0 : Nat} {a1 : Int32} (ha0 : isa G a0 1) : ∀ z, fX1_readHead (xln G) a0 a1 m0 = some z → xMet G l mX1_readHead d [.ref (xad G a0), .int a1] m0 (xrI z) := by
  refine xMet_of (by decide +kernel) hn hT (Nat.le_of_ble_eq_true rfl) (fun X F => ?_)
  refine xj_sub (lv' := [(0, .ref (xad G a0)), (1, .int a1)]) [0, 1] rfl ?_
  unfold fX1_readHead
  refine xj_aload_n F 0 dX1_readHead_0 rfl ?_
  refine xj_getR F ha0 lgX1_31 dX1_readHead_1 (fun u1 hu1 => ?_)
  refine xj_aload_n F 0 dX1_readHead_4 rfl ?_
  refine xj_get F ha0 lgX1_52 dX1_readHead_5 (fun v2 => ?_)
  refine xj_iald F hu1 dX1_readHead_8 (fun v3 => ?_)
  refine xj_sipush F 257 dX1_readHead_9 (by decide) ?_
  refine xj_icmp_eq (tgt := 21) F dX1_readHead_12 (by decide) ?_ ?_
  · refine xj_aload_n F 0 dX1_readHead_21 rfl ?_
    refine xj_getR F ha0 lgX1_37 dX1_readHead_22 (fun u4 hu4 => ?_)
    refine xj_aload_n F 0 dX1_readHead_25 rfl ?_
    refine xj_get F ha0 lgX1_52 dX1_readHead_26 (fun v5 => ?_)
    refine xj_iald F hu4 dX1_readHead_29 (fun v6 => ?_)
    refine xj_istore_n (lv' := [(2, .int v6), (0, .ref (xad G a0)), (1, .int a1)]) F dX1_readHead_30 (by decide) rfl ?_
    refine xj_aload_n F 1 dX1_readHead_31 rfl ?_
    refine xj_getR F ha0 lgX1_18 dX1_readHead_32 (fun u7 hu7 => ?_)
    refine xj_iload_n F 0 dX1_readHead_35 rfl ?_
    refine xj_iald F hu7 dX1_readHead_36 (fun v8 => ?_)
    refine xj_iconst F (-1) dX1_readHead_37 (by decide) ?_
    refine xj_icmp_eq (tgt := 47) F dX1_readHead_38 (by decide) ?_ ?_
    · refine xj_aload_n F 1 dX1_readHead_47 rfl ?_
      refine xj_dup F dX1_readHead_48 rfl ?_
      refine xj_get F ha0 lgX1_52 dX1_readHead_49 (fun v9 => ?_)
      refine xj_iconst F 1 dX1_readHead_52 (by decide) ?_
      refine xj_iadd F dX1_readHead_53 (fun v10 => ?_)
      refine xj_put F ha0 lpX1_52 dX1_readHead_54 (fun m11 => ?_)
      refine xj_iconst F (-1) dX1_readHead_57 (by decide) ?_
      refine xj_istore_n (lv' := [(3, .int (-1)), (2, .int v6), (0, .ref (xad G a0)), (1, .int a1)]) F dX1_readHead_58 (by decide) rfl ?_
      refine xj_aload_n F 2 dX1_readHead_59 rfl ?_
      refine xj_bipush F 58 dX1_readHead_60 (by decide) ?_
      refine xj_callVI (b := a0) (As := [.int 58]) (d' := 0) F ha0 lmX1_152 rfl rfl (Nat.le_of_ble_eq_true rfl) (xfit (Nat.le_trans (Nat.le_of_ble_eq_true rfl) hdep)) dX1_readHead_62 (fun hT z hz => wX1_take (xnd F) (Nat.le_refl _) hT (a0 := a0) (a1 := 58) ha0 z hz) (fun v13 m12 => ?_)
      refine xj_if_eq (tgt := 125) F dX1_readHead_65 (by decide) ?_ ?_
      · refine xj_sub (lv' := [(0, .ref (xad G a0)), (1, .int a1), (2, .int v6), (3, .int (-1))]) [2, 3, 1, 0] rfl ?_
        exact jX1_readHead_125 F hdep a0 a1 v6 (-1) m12 ha0
      · refine xj_aload_n F 2 dX1_readHead_68 rfl ?_
        refine xj_getR F ha0 lgX1_31 dX1_readHead_69 (fun u14 hu14 => ?_)
        refine xj_aload_n F 2 dX1_readHead_72 rfl ?_
        refine xj_get F ha0 lgX1_52 dX1_readHead_73 (fun v15 => ?_)
        refine xj_iald F hu14 dX1_readHead_76 (fun v16 => ?_)
        refine xj_sipush F 257 dX1_readHead_77 (by decide) ?_
        refine xj_icmp_eq (tgt := 89) F dX1_readHead_80 (by decide) ?_ ?_
        · refine xj_aload_n F 2 dX1_readHead_89 rfl ?_
          refine xj_getR F ha0 lgX1_18 dX1_readHead_90 (fun u17 hu17 => ?_)
          refine xj_aload_n F 2 dX1_readHead_93 rfl ?_
          refine xj_getR F ha0 lgX1_37 dX1_readHead_94 (fun u18 hu18 => ?_)
          refine xj_aload_n F 2 dX1_readHead_97 rfl ?_
          refine xj_get F ha0 lgX1_52 dX1_readHead_98 (fun v19 => ?_)
          refine xj_iald F hu18 dX1_readHead_101 (fun v20 => ?_)
          refine xj_iald F hu17 dX1_readHead_102 (fun v21 => ?_)
          refine xj_istore_n (lv' := [(3, .int v21), (2, .int v6), (0, .ref (xad G a0)), (1, .int a1)]) F dX1_readHead_103 (by decide) rfl ?_
          refine xj_iload_n F 0 dX1_readHead_104 rfl ?_
          refine xj_iconst F (-1) dX1_readHead_105 (by decide) ?_
          refine xj_icmp_ne (tgt := 115) F dX1_readHead_106 (by decide) ?_ ?_
          · refine xj_aload_n F 2 dX1_readHead_115 rfl ?_
            refine xj_dup F dX1_readHead_116 rfl ?_
            refine xj_get F ha0 lgX1_52 dX1_readHead_117 (fun v22 => ?_)
            refine xj_iconst F 1 dX1_readHead_120 (by decide) ?_
            refine xj_iadd F dX1_readHead_121 (fun v23 => ?_)
            refine xj_put F ha0 lpX1_52 dX1_readHead_122 (fun m24 => ?_)
            refine xj_sub (lv' := [(0, .ref (xad G a0)), (1, .int a1), (2, .int v6), (3, .int v21)]) [2, 3, 1, 0] rfl ?_
            exact jX1_readHead_125 F hdep a0 a1 v6 v21 m24 ha0
          · refine xj_aload_n F 2 dX1_readHead_109 rfl ?_
            refine xj_iconst F 4 dX1_readHead_110 (by decide) ?_
            refine xj_callVI (b := a0) (As := [.int 4]) (d' := 0) F ha0 lmX1_146 rfl rfl (Nat.le_of_ble_eq_true rfl) (xfit (Nat.le_trans (Nat.le_of_ble_eq_true rfl) hdep)) dX1_readHead_111 (fun hT z hz => wX1_refuse (xnd F) (Nat.le_refl _) hT (a0 := a0) (a1 := 4) ha0 z hz) (fun v26 m25 => ?_)
            exact xj_retB F rfl dX1_readHead_114
        · refine xj_aload_n F 2 dX1_readHead_83 rfl ?_
          refine xj_iconst F 1 dX1_readHead_84 (by decide) ?_
          refine xj_callVI (b := a0) (As := [.int 1]) (d' := 0) F ha0 lmX1_146 rfl rfl (Nat.le_of_ble_eq_true rfl) (xfit (Nat.le_trans (Nat.le_of_ble_eq_true rfl) hdep)) dX1_readHead_85 (fun hT z hz => wX1_refuse (xnd F) (Nat.le_refl _) hT (a0 := a0) (a1 := 1) ha0 z hz) (fun v28 m27 => ?_)
          exact xj_retB F rfl dX1_readHead_88
    · refine xj_aload_n F 1 dX1_readHead_41 rfl ?_
      refine xj_iconst F 4 dX1_readHead_42 (by decide) ?_
      refine xj_callVI (b := a0) (As := [.int 4]) (d' := 0) F ha0 lmX1_146 rfl rfl (Nat.le_of_ble_eq_true rfl) (xfit (Nat.le_trans (Nat.le_of_ble_eq_true rfl) hdep)) dX1_readHead_43 (fun hT z hz => wX1_refuse (xnd F) (Nat.le_refl _) hT (a0 := a0) (a1 := 4) ha0 z hz) (fun v30 m29 => ?_)
      exact xj_retB F rfl dX1_readHead_46
  · refine xj_aload_n F 0 dX1_readHead_15 rfl ?_
    refine xj_iconst F 1 dX1_readHead_16 (by decide) ?_
    refine xj_callVI (b := a0) (As := [.int 1]) (d' := 0) F ha0 lmX1_146 rfl rfl (Nat.le_of_ble_eq_true rfl) (xfit (Nat.le_trans (Nat.le_of_ble_eq_true rfl) hdep)) dX1_readHead_17 (fun hT z hz => wX1_refuse (xnd F) (Nat.le_refl _) hT (a0 := a0) (a1 := 1) ha0 z hz) (fun v32 m31 => ?_)
    exact xj_retB F rfl dX1_readHead_20
set_option maxRecDepth 20000 in
set_option maxHeartbeats 4000000 in
theorem wX1_isMemberHere {G : XG} {l : Launch} {d : Nat} (hn : xN G) (hdep : 0 ≤ d) {m0 : XM} (hT : xT G m0) {a0 : Nat} (ha0 : isa G a0 1) : ∀ z, fX1_isMemberHere (xln G) a0 m0 = some z → xMet G l mX1_isMemberHere d [.ref (xad G a0)] m0 (xrI z) := by
  refine xMet_of (by decide +kernel) hn hT (Nat.le_of_ble_eq_true rfl) (fun X F => ?_)
  refine xj_sub (lv' := [(0, .ref (xad G a0))]) [0] rfl ?_
  unfold fX1_isMemberHere
  refine xj_aload_n F 0 dX1_isMemberHere_0 rfl ?_
  refine xj_getR F ha0 lgX1_31 dX1_isMemberHere_1 (fun u1 hu1 => ?_)
  refine xj_aload_n F 0 dX1_isMemberHere_4 rfl ?_
  refine xj_get F ha0 lgX1_52 dX1_isMemberHere_5 (fun v2 => ?_)
  refine xj_iald F hu1 dX1_isMemberHere_8 (fun v3 => ?_)
  refine xj_ite (c := v3 = 257) (fun h4 => ?_) (fun h4 => ?_)
  · refine xj_tabIn F 60 dX1_isMemberHere_9 (by subst h4; decide) (by subst h4; decide) (by subst h4; rfl) (by decide) ?_
    refine xj_iconst F 1 dX1_isMemberHere_60 (by decide) ?_
    exact xj_retZ F rfl rfl dX1_isMemberHere_61
  · skip
    refine xj_ite (c := v3 = 258) (fun h5 => ?_) (fun h5 => ?_)
    · refine xj_tabIn F 62 dX1_isMemberHere_9 (by subst h5; decide) (by subst h5; decide) (by subst h5; rfl) (by decide) ?_
      refine xj_iconst F 0 dX1_isMemberHere_62 (by decide) ?_
      exact xj_retZ F rfl rfl dX1_isMemberHere_63
    · skip
      refine xj_ite (c := v3 = 259) (fun h6 => ?_) (fun h6 => ?_)
      · refine xj_tabIn F 62 dX1_isMemberHere_9 (by subst h6; decide) (by subst h6; decide) (by subst h6; rfl) (by decide) ?_
        refine xj_iconst F 0 dX1_isMemberHere_62 (by decide) ?_
        exact xj_retZ F rfl rfl dX1_isMemberHere_63
      · skip
        refine xj_ite (c := v3 = 260) (fun h7 => ?_) (fun h7 => ?_)
        · refine xj_tabIn F 62 dX1_isMemberHere_9 (by subst h7; decide) (by subst h7; decide) (by subst h7; rfl) (by decide) ?_
          refine xj_iconst F 0 dX1_isMemberHere_62 (by decide) ?_
          exact xj_retZ F rfl rfl dX1_isMemberHere_63
        · skip
          refine xj_ite (c := v3 = 261) (fun h8 => ?_) (fun h8 => ?_)
          · refine xj_tabIn F 62 dX1_isMemberHere_9 (by subst h8; decide) (by subst h8; decide) (by subst h8; rfl) (by decide) ?_
            refine xj_iconst F 0 dX1_isMemberHere_62 (by decide) ?_
            exact xj_retZ F rfl rfl dX1_isMemberHere_63
          · skip
            refine xj_ite (c := v3 = 262) (fun h9 => ?_) (fun h9 => ?_)
            · refine xj_tabIn F 60 dX1_isMemberHere_9 (by subst h9; decide) (by subst h9; decide) (by subst h9; rfl) (by decide) ?_
              refine xj_iconst F 1 dX1_isMemberHere_60 (by decide) ?_
              exact xj_retZ F rfl rfl dX1_isMemberHere_61
            · skip
              refine xj_ite (c := v3 = 263) (fun h10 => ?_) (fun h10 => ?_)
              · refine xj_tabIn F 60 dX1_isMemberHere_9 (by subst h10; decide) (by subst h10; decide) (by subst h10; rfl) (by decide) ?_
                refine xj_iconst F 1 dX1_isMemberHere_60 (by decide) ?_
                exact xj_retZ F rfl rfl dX1_isMemberHere_61
              · skip
                refine xj_ite (c := v3 = 264) (fun h11 => ?_) (fun h11 => ?_)
                · refine xj_tabIn F 60 dX1_isMemberHere_9 (by subst h11; decide) (by subst h11; decide) (by subst h11; rfl) (by decide) ?_
                  refine xj_iconst F 1 dX1_isMemberHere_60 (by decide) ?_
                  exact xj_retZ F rfl rfl dX1_isMemberHere_61
                · skip
                  refine xj_ite (c := v3 = 265) (fun h12 => ?_) (fun h12 => ?_)
                  · refine xj_tabIn F 60 dX1_isMemberHere_9 (by subst h12; decide) (by subst h12; decide) (by subst h12; rfl) (by decide) ?_
                    refine xj_iconst F 1 dX1_isMemberHere_60 (by decide) ?_
                    exact xj_retZ F rfl rfl dX1_isMemberHere_61
                  · skip
                    have eh4 := xne 257 h4 rfl
                    have eh5 := xne 258 h5 rfl
                    have eh6 := xne 259 h6 rfl
                    have eh7 := xne 260 h7 rfl
                    have eh8 := xne 261 h8 rfl
                    have eh9 := xne 262 h9 rfl
                    have eh10 := xne 263 h10 rfl
                    have eh11 := xne 264 h11 rfl
                    have eh12 := xne 265 h12 rfl
                    refine xj_tabOut F 62 dX1_isMemberHere_9 (by omega) (by decide) ?_
                    refine xj_iconst F 0 dX1_isMemberHere_62 (by decide) ?_
                    exact xj_retZ F rfl rfl dX1_isMemberHere_63
set_option maxRecDepth 20000 in
set_option maxHeartbeats 4000000 in
theorem wX1_readName {G : XG} {l : Launch} {d : Nat} (hn : xN G) (hdep : 1 ≤ d) {m0 : XM} (hT : xT G m0) {a0 : Nat} {a1 : Int32} {a2 : Int32} (ha0 : isa G a0 1) : ∀ z, fX1_readName (xln G) a0 a1 a2 m0 = some z → xMet G l mX1_readName d [.ref (xad G a0), .int a1, .int a2] m0 (xrI z) := by
  refine xMet_of (by decide +kernel) hn hT (Nat.le_of_ble_eq_true rfl) (fun X F => ?_)
  refine xj_sub (lv' := [(0, .ref (xad G a0)), (1, .int a1), (2, .int a2)]) [0, 1, 2] rfl ?_
  unfold fX1_readName
  refine xj_aload_n F 0 dX1_readName_0 rfl ?_
  refine xj_dup F dX1_readName_1 rfl ?_
  refine xj_get F ha0 lgX1_52 dX1_readName_2 (fun v1 => ?_)
  refine xj_iconst F 1 dX1_readName_5 (by decide) ?_
  refine xj_iadd F dX1_readName_6 (fun v2 => ?_)
  refine xj_put F ha0 lpX1_52 dX1_readName_7 (fun m3 => ?_)
  refine xj_aload_n F 0 dX1_readName_10 rfl ?_
  refine xj_getR F ha0 lgX1_31 dX1_readName_11 (fun u4 hu4 => ?_)
  refine xj_aload_n F 0 dX1_readName_14 rfl ?_
  refine xj_get F ha0 lgX1_52 dX1_readName_15 (fun v5 => ?_)
  refine xj_iald F hu4 dX1_readName_18 (fun v6 => ?_)
  refine xj_sipush F 258 dX1_readName_19 (by decide) ?_
  refine xj_icmp_eq (tgt := 31) F dX1_readName_22 (by decide) ?_ ?_
  · refine xj_aload_n F 0 dX1_readName_31 rfl ?_
    refine xj_getR F ha0 lgX1_37 dX1_readName_32 (fun u7 hu7 => ?_)
    refine xj_aload_n F 0 dX1_readName_35 rfl ?_
    refine xj_get F ha0 lgX1_52 dX1_readName_36 (fun v8 => ?_)
    refine xj_iald F hu7 dX1_readName_39 (fun v9 => ?_)
    refine xj_istore_n (lv' := [(3, .int v9), (0, .ref (xad G a0)), (1, .int a1), (2, .int a2)]) F dX1_readName_40 (by decide) rfl ?_
    refine xj_aload_n F 1 dX1_readName_41 rfl ?_
    refine xj_getR F ha0 lgX1_12 dX1_readName_42 (fun u10 hu10 => ?_)
    refine xj_getR F hu10 lgX1_182 dX1_readName_45 (fun u11 hu11 => ?_)
    refine xj_iload_n F 2 dX1_readName_48 rfl ?_
    refine xj_bipush F 26 dX1_readName_49 (by decide) ?_
    refine xj_imul F dX1_readName_51 (fun v12 => ?_)
    refine xj_iload_n F 0 dX1_readName_52 rfl ?_
    refine xj_iadd F dX1_readName_53 (fun v13 => ?_)
    refine xj_iald F hu11 dX1_readName_54 (fun v14 => ?_)
    refine xj_iconst F (-1) dX1_readName_55 (by decide) ?_
    refine xj_icmp_eq (tgt := 65) F dX1_readName_56 (by decide) ?_ ?_
    · refine xj_aload_n F 1 dX1_readName_65 rfl ?_
      refine xj_dup F dX1_readName_66 rfl ?_
      refine xj_get F ha0 lgX1_52 dX1_readName_67 (fun v15 => ?_)
      refine xj_iconst F 1 dX1_readName_70 (by decide) ?_
      refine xj_iadd F dX1_readName_71 (fun v16 => ?_)
      refine xj_put F ha0 lpX1_52 dX1_readName_72 (fun m17 => ?_)
      refine xj_aload_n F 1 dX1_readName_75 rfl ?_
      refine xj_getR F ha0 lgX1_12 dX1_readName_76 (fun u18 hu18 => ?_)
      refine xj_getR F hu18 lgX1_185 dX1_readName_79 (fun u19 hu19 => ?_)
      refine xj_iload_n F 3 dX1_readName_82 rfl ?_
      refine xj_iload_n F 0 dX1_readName_83 rfl ?_
      refine xj_iast F hu19 dX1_readName_84 (fun m20 => ?_)
      refine xj_aload_n F 1 dX1_readName_85 rfl ?_
      refine xj_getR F ha0 lgX1_12 dX1_readName_86 (fun u21 hu21 => ?_)
      refine xj_getR F hu21 lgX1_182 dX1_readName_89 (fun u22 hu22 => ?_)
      refine xj_iload_n F 2 dX1_readName_92 rfl ?_
      refine xj_bipush F 26 dX1_readName_93 (by decide) ?_
      refine xj_imul F dX1_readName_95 (fun v23 => ?_)
      refine xj_iload_n F 0 dX1_readName_96 rfl ?_
      refine xj_iadd F dX1_readName_97 (fun v24 => ?_)
      refine xj_iload_n F 3 dX1_readName_98 rfl ?_
      refine xj_iast F hu22 dX1_readName_99 (fun m25 => ?_)
      refine xj_iconst F 1 dX1_readName_100 (by decide) ?_
      exact xj_retZ F rfl rfl dX1_readName_101
    · refine xj_aload_n F 1 dX1_readName_59 rfl ?_
      refine xj_iconst F 4 dX1_readName_60 (by decide) ?_
      refine xj_callVI (b := a0) (As := [.int 4]) (d' := 0) F ha0 lmX1_146 rfl rfl (Nat.le_of_ble_eq_true rfl) (xfit (Nat.le_trans (Nat.le_of_ble_eq_true rfl) hdep)) dX1_readName_61 (fun hT z hz => wX1_refuse (xnd F) (Nat.le_refl _) hT (a0 := a0) (a1 := 4) ha0 z hz) (fun v27 m26 => ?_)
      exact xj_retB F rfl dX1_readName_64
  · refine xj_aload_n F 0 dX1_readName_25 rfl ?_
    refine xj_iconst F 1 dX1_readName_26 (by decide) ?_
    refine xj_callVI (b := a0) (As := [.int 1]) (d' := 0) F ha0 lmX1_146 rfl rfl (Nat.le_of_ble_eq_true rfl) (xfit (Nat.le_trans (Nat.le_of_ble_eq_true rfl) hdep)) dX1_readName_27 (fun hT z hz => wX1_refuse (xnd F) (Nat.le_refl _) hT (a0 := a0) (a1 := 1) ha0 z hz) (fun v29 m28 => ?_)
    exact xj_retB F rfl dX1_readName_30
set_option maxRecDepth 20000 in
set_option maxHeartbeats 4000000 in
theorem wX1_readConstant {G : XG} {l : Launch} {d : Nat} (hn : xN G) (hdep : 2 ≤ d) {m0 : XM} (hT : xT G m0) {a0 : Nat} {a1 : Int32} {a2 : Int32} (ha0 : isa G a0 1) : ∀ z, fX1_readConstant (xln G) a0 a1 a2 m0 = some z → xMet G l mX1_readConstant d [.ref (xad G a0), .int a1, .int a2] m0 (xrI z) := by
  refine xMet_of (by decide +kernel) hn hT (Nat.le_of_ble_eq_true rfl) (fun X F => ?_)
  refine xj_sub (lv' := [(0, .ref (xad G a0)), (1, .int a1), (2, .int a2)]) [0, 1, 2] rfl ?_
  unfold fX1_readConstant
  refine xj_aload_n F 0 dX1_readConstant_0 rfl ?_
  refine xj_iload_n F 1 dX1_readConstant_1 rfl ?_
  refine xj_iload_n F 2 dX1_readConstant_2 rfl ?_
  refine xj_callVI (b := a0) (As := [.int a1, .int a2]) (d' := 1) F ha0 lmX1_188 rfl rfl (Nat.le_of_ble_eq_true rfl) (xfit (Nat.le_trans (Nat.le_of_ble_eq_true rfl) hdep)) dX1_readConstant_3 (fun hT z hz => wX1_readName (xnd F) (Nat.le_refl _) hT (a0 := a0) (a1 := a1) (a2 := a2) ha0 z hz) (fun v2 m1 => ?_)
  refine xj_if_eq (tgt := 18) F dX1_readConstant_6 (by decide) ?_ ?_
  · refine xj_iconst F 0 dX1_readConstant_18 (by decide) ?_
    exact xj_retZ F rfl rfl dX1_readConstant_19
  · refine xj_aload_n F 0 dX1_readConstant_9 rfl ?_
    refine xj_bipush F 61 dX1_readConstant_10 (by decide) ?_
    refine xj_callVI (b := a0) (As := [.int 61]) (d' := 0) F ha0 lmX1_67 rfl rfl (Nat.le_of_ble_eq_true rfl) (xfit (Nat.le_trans (Nat.le_of_ble_eq_true rfl) hdep)) dX1_readConstant_12 (fun hT z hz => wX1_mustTake (xnd F) (Nat.le_refl _) hT (a0 := a0) (a1 := 61) ha0 z hz) (fun v4 m3 => ?_)
    refine xj_if_ne (tgt := 20) F dX1_readConstant_15 (by decide) ?_ ?_
    · refine xj_aload_n F 0 dX1_readConstant_20 rfl ?_
      refine xj_getR F ha0 lgX1_31 dX1_readConstant_21 (fun u5 hu5 => ?_)
      refine xj_aload_n F 0 dX1_readConstant_24 rfl ?_
      refine xj_get F ha0 lgX1_52 dX1_readConstant_25 (fun v6 => ?_)
      refine xj_iald F hu5 dX1_readConstant_28 (fun v7 => ?_)
      refine xj_sipush F 259 dX1_readConstant_29 (by decide) ?_
      refine xj_icmp_eq (tgt := 41) F dX1_readConstant_32 (by decide) ?_ ?_
      · refine xj_aload_n F 0 dX1_readConstant_41 rfl ?_
        refine xj_getR F ha0 lgX1_37 dX1_readConstant_42 (fun u8 hu8 => ?_)
        refine xj_aload_n F 0 dX1_readConstant_45 rfl ?_
        refine xj_get F ha0 lgX1_52 dX1_readConstant_46 (fun v9 => ?_)
        refine xj_iald F hu8 dX1_readConstant_49 (fun v10 => ?_)
        refine xj_sipush F 999 dX1_readConstant_50 (by decide) ?_
        refine xj_icmp_le (tgt := 62) F dX1_readConstant_53 (by decide) ?_ ?_
        · refine xj_aload_n F 0 dX1_readConstant_62 rfl ?_
          refine xj_getR F ha0 lgX1_12 dX1_readConstant_63 (fun u11 hu11 => ?_)
          refine xj_getR F hu11 lgX1_191 dX1_readConstant_66 (fun u12 hu12 => ?_)
          refine xj_iload_n F 2 dX1_readConstant_69 rfl ?_
          refine xj_aload_n F 0 dX1_readConstant_70 rfl ?_
          refine xj_getR F ha0 lgX1_37 dX1_readConstant_71 (fun u13 hu13 => ?_)
          refine xj_aload_n F 0 dX1_readConstant_74 rfl ?_
          refine xj_get F ha0 lgX1_52 dX1_readConstant_75 (fun v14 => ?_)
          refine xj_iald F hu13 dX1_readConstant_78 (fun v15 => ?_)
          refine xj_iast F hu12 dX1_readConstant_79 (fun m16 => ?_)
          refine xj_aload_n F 0 dX1_readConstant_80 rfl ?_
          refine xj_dup F dX1_readConstant_81 rfl ?_
          refine xj_get F ha0 lgX1_52 dX1_readConstant_82 (fun v17 => ?_)
          refine xj_iconst F 1 dX1_readConstant_85 (by decide) ?_
          refine xj_iadd F dX1_readConstant_86 (fun v18 => ?_)
          refine xj_put F ha0 lpX1_52 dX1_readConstant_87 (fun m19 => ?_)
          refine xj_aload_n F 0 dX1_readConstant_90 rfl ?_
          refine xj_bipush F 59 dX1_readConstant_91 (by decide) ?_
          refine xj_callVI (b := a0) (As := [.int 59]) (d' := 0) F ha0 lmX1_67 rfl rfl (Nat.le_of_ble_eq_true rfl) (xfit (Nat.le_trans (Nat.le_of_ble_eq_true rfl) hdep)) dX1_readConstant_93 (fun hT z hz => wX1_mustTake (xnd F) (Nat.le_refl _) hT (a0 := a0) (a1 := 59) ha0 z hz) (fun v21 m20 => ?_)
          exact xj_retB F rfl dX1_readConstant_96
        · refine xj_aload_n F 0 dX1_readConstant_56 rfl ?_
          refine xj_iconst F 2 dX1_readConstant_57 (by decide) ?_
          refine xj_callVI (b := a0) (As := [.int 2]) (d' := 0) F ha0 lmX1_146 rfl rfl (Nat.le_of_ble_eq_true rfl) (xfit (Nat.le_trans (Nat.le_of_ble_eq_true rfl) hdep)) dX1_readConstant_58 (fun hT z hz => wX1_refuse (xnd F) (Nat.le_refl _) hT (a0 := a0) (a1 := 2) ha0 z hz) (fun v23 m22 => ?_)
          exact xj_retB F rfl dX1_readConstant_61
      · refine xj_aload_n F 0 dX1_readConstant_35 rfl ?_
        refine xj_iconst F 1 dX1_readConstant_36 (by decide) ?_
        refine xj_callVI (b := a0) (As := [.int 1]) (d' := 0) F ha0 lmX1_146 rfl rfl (Nat.le_of_ble_eq_true rfl) (xfit (Nat.le_trans (Nat.le_of_ble_eq_true rfl) hdep)) dX1_readConstant_37 (fun hT z hz => wX1_refuse (xnd F) (Nat.le_refl _) hT (a0 := a0) (a1 := 1) ha0 z hz) (fun v25 m24 => ?_)
        exact xj_retB F rfl dX1_readConstant_40
    · refine xj_iconst F 0 dX1_readConstant_18 (by decide) ?_
      exact xj_retZ F rfl rfl dX1_readConstant_19
set_option maxRecDepth 20000 in
set_option maxHeartbeats 4000000 in
theorem jX1_readKey_86 {G : XG} {l : Launch} {d : Nat} {X : XX} (F : xF (xE G d) G X mX1_readKey) (hdep : 0 ≤ d) : ∀ (q0 : Nat) (m0 : XM), isa G q0 1 → xJ (xE G d) (xQ xrI G X mX1_readKey) G l X mX1_readKey 86 [(0, .ref (xad G q0))] [] m0 (fX1_readKey_86 (xln G) q0 m0) := by
  intro q0 m0 hq0
  unfold fX1_readKey_86
  refine xj_aload_n F 0 dX1_readKey_86 rfl ?_
  refine xj_iconst F 1 dX1_readKey_87 (by decide) ?_
  refine xj_put F hq0 lpX1_56 dX1_readKey_88 (fun m1 => ?_)
  refine xj_aload_n F 0 dX1_readKey_91 rfl ?_
  refine xj_aload_n F 0 dX1_readKey_92 rfl ?_
  refine xj_getR F hq0 lgX1_34 dX1_readKey_93 (fun u2 hu2 => ?_)
  refine xj_aload_n F 0 dX1_readKey_96 rfl ?_
  refine xj_get F hq0 lgX1_52 dX1_readKey_97 (fun v3 => ?_)
  refine xj_iald F hu2 dX1_readKey_100 (fun v4 => ?_)
  refine xj_put F hq0 lpX1_73 dX1_readKey_101 (fun m5 => ?_)
  refine xj_iconst F (-1) dX1_readKey_104 (by decide) ?_
  exact xj_ret F rfl dX1_readKey_105
set_option maxRecDepth 20000 in
set_option maxHeartbeats 4000000 in
theorem wX1_readKey {G : XG} {l : Launch} {d : Nat} (hn : xN G) (hdep : 0 ≤ d) {m0 : XM} (hT : xT G m0) {a0 : Nat} (ha0 : isa G a0 1) : ∀ z, fX1_readKey (xln G) a0 m0 = some z → xMet G l mX1_readKey d [.ref (xad G a0)] m0 (xrI z) := by
  refine xMet_of (by decide +kernel) hn hT (Nat.le_of_ble_eq_true rfl) (fun X F => ?_)
  refine xj_sub (lv' := [(0, .ref (xad G a0))]) [0] rfl ?_
  unfold fX1_readKey
  refine xj_aload_n F 0 dX1_readKey_0 rfl ?_
  refine xj_getR F ha0 lgX1_37 dX1_readKey_1 (fun u1 hu1 => ?_)
  refine xj_aload_n F 0 dX1_readKey_4 rfl ?_
  refine xj_get F ha0 lgX1_52 dX1_readKey_5 (fun v2 => ?_)
  refine xj_iald F hu1 dX1_readKey_8 (fun v3 => ?_)
  refine xj_istore_n (lv' := [(1, .int v3), (0, .ref (xad G a0))]) F dX1_readKey_9 (by decide) rfl ?_
  refine xj_aload_n F 1 dX1_readKey_10 rfl ?_
  refine xj_dup F dX1_readKey_11 rfl ?_
  refine xj_get F ha0 lgX1_52 dX1_readKey_12 (fun v4 => ?_)
  refine xj_iconst F 1 dX1_readKey_15 (by decide) ?_
  refine xj_iadd F dX1_readKey_16 (fun v5 => ?_)
  refine xj_put F ha0 lpX1_52 dX1_readKey_17 (fun m6 => ?_)
  refine xj_aload_n F 1 dX1_readKey_20 rfl ?_
  refine xj_getR F ha0 lgX1_31 dX1_readKey_21 (fun u7 hu7 => ?_)
  refine xj_aload_n F 1 dX1_readKey_24 rfl ?_
  refine xj_get F ha0 lgX1_52 dX1_readKey_25 (fun v8 => ?_)
  refine xj_iald F hu7 dX1_readKey_28 (fun v9 => ?_)
  refine xj_bipush F 46 dX1_readKey_29 (by decide) ?_
  refine xj_icmp_ne (tgt := 86) F dX1_readKey_31 (by decide) ?_ ?_
  · refine xj_sub (lv' := [(0, .ref (xad G a0))]) [1] rfl ?_
    exact jX1_readKey_86 F hdep a0 m6 ha0
  · refine xj_aload_n F 1 dX1_readKey_34 rfl ?_
    refine xj_dup F dX1_readKey_35 rfl ?_
    refine xj_get F ha0 lgX1_52 dX1_readKey_36 (fun v10 => ?_)
    refine xj_iconst F 1 dX1_readKey_39 (by decide) ?_
    refine xj_iadd F dX1_readKey_40 (fun v11 => ?_)
    refine xj_put F ha0 lpX1_52 dX1_readKey_41 (fun m12 => ?_)
    refine xj_aload_n F 1 dX1_readKey_44 rfl ?_
    refine xj_getR F ha0 lgX1_31 dX1_readKey_45 (fun u13 hu13 => ?_)
    refine xj_aload_n F 1 dX1_readKey_48 rfl ?_
    refine xj_get F ha0 lgX1_52 dX1_readKey_49 (fun v14 => ?_)
    refine xj_iald F hu13 dX1_readKey_52 (fun v15 => ?_)
    refine xj_sipush F 258 dX1_readKey_53 (by decide) ?_
    refine xj_icmp_ne (tgt := 86) F dX1_readKey_56 (by decide) ?_ ?_
    · refine xj_sub (lv' := [(0, .ref (xad G a0))]) [1] rfl ?_
      exact jX1_readKey_86 F hdep a0 m12 ha0
    · refine xj_aload_n F 1 dX1_readKey_59 rfl ?_
      refine xj_dup F dX1_readKey_60 rfl ?_
      refine xj_get F ha0 lgX1_52 dX1_readKey_61 (fun v16 => ?_)
      refine xj_iconst F 1 dX1_readKey_64 (by decide) ?_
      refine xj_iadd F dX1_readKey_65 (fun v17 => ?_)
      refine xj_put F ha0 lpX1_52 dX1_readKey_66 (fun m18 => ?_)
      refine xj_iload_n F 0 dX1_readKey_69 rfl ?_
      refine xj_bipush F 26 dX1_readKey_70 (by decide) ?_
      refine xj_imul F dX1_readKey_72 (fun v19 => ?_)
      refine xj_aload_n F 1 dX1_readKey_73 rfl ?_
      refine xj_getR F ha0 lgX1_37 dX1_readKey_74 (fun u20 hu20 => ?_)
      refine xj_aload_n F 1 dX1_readKey_77 rfl ?_
      refine xj_get F ha0 lgX1_52 dX1_readKey_78 (fun v21 => ?_)
      refine xj_iconst F 1 dX1_readKey_81 (by decide) ?_
      refine xj_isub F dX1_readKey_82 (fun v22 => ?_)
      refine xj_iald F hu20 dX1_readKey_83 (fun v23 => ?_)
      refine xj_iadd F dX1_readKey_84 (fun v24 => ?_)
      exact xj_ret F rfl dX1_readKey_85
set_option maxRecDepth 20000 in
set_option maxHeartbeats 4000000 in
theorem jX1_termFaultHere_74 {G : XG} {l : Launch} {d : Nat} {X : XX} (F : xF (xE G d) G X mX1_termFaultHere) (hdep : 0 ≤ d) : ∀ (q0 : Nat) (m0 : XM), isa G q0 1 → xJ (xE G d) (xQ xrI G X mX1_termFaultHere) G l X mX1_termFaultHere 74 [(0, .ref (xad G q0))] [] m0 (fX1_termFaultHere_74 (xln G) q0 m0) := by
  intro q0 m0 hq0
  unfold fX1_termFaultHere_74
  refine xj_aload_n F 0 dX1_termFaultHere_74 rfl ?_
  refine xj_get F hq0 lgX1_222 dX1_termFaultHere_75 (fun v1 => ?_)
  refine xj_bipush F 8 dX1_termFaultHere_78 (by decide) ?_
  refine xj_icmp_ge (tgt := 87) F dX1_termFaultHere_80 (by decide) ?_ ?_
  · refine xj_iconst F 3 dX1_termFaultHere_87 (by decide) ?_
    exact xj_ret F rfl dX1_termFaultHere_88
  · refine xj_iconst F 0 dX1_termFaultHere_83 (by decide) ?_
    refine xj_goto (tgt := 88) F dX1_termFaultHere_84 (by decide) ?_
    exact xj_ret F rfl dX1_termFaultHere_88
set_option maxRecDepth 20000 in
set_option maxHeartbeats 4000000 in
theorem jX1_termFaultHere_69 {G : XG} {l : Launch} {d : Nat} {X : XX} (F : xF (xE G d) G X mX1_termFaultHere) (hdep : 0 ≤ d) : ∀ (q0 : Nat) (m0 : XM), isa G q0 1 → xJ (xE G d) (xQ xrI G X mX1_termFaultHere) G l X mX1_termFaultHere 69 [(0, .ref (xad G q0))] [] m0 (fX1_termFaultHere_69 (xln G) q0 m0) := by
  intro q0 m0 hq0
  unfold fX1_termFaultHere_69
  refine xj_goto (tgt := 74) F dX1_termFaultHere_69 (by decide) ?_
  exact jX1_termFaultHere_74 F hdep q0 m0 hq0
set_option maxRecDepth 20000 in
set_option maxHeartbeats 4000000 in
theorem wX1_termFaultHere {G : XG} {l : Launch} {d : Nat} (hn : xN G) (hdep : 0 ≤ d) {m0 : XM} (hT : xT G m0) {a0 : Nat} (ha0 : isa G a0 1) : ∀ z, fX1_termFaultHere (xln G) a0 m0 = some z → xMet G l mX1_termFaultHere d [.ref (xad G a0)] m0 (xrI z) := by
  refine xMet_of (by decide +kernel) hn hT (Nat.le_of_ble_eq_true rfl) (fun X F => ?_)
  refine xj_sub (lv' := [(0, .ref (xad G a0))]) [0] rfl ?_
  unfold fX1_termFaultHere
  refine xj_aload_n F 0 dX1_termFaultHere_0 rfl ?_
  refine xj_getR F ha0 lgX1_31 dX1_termFaultHere_1 (fun u1 hu1 => ?_)
  refine xj_aload_n F 0 dX1_termFaultHere_4 rfl ?_
  refine xj_get F ha0 lgX1_52 dX1_termFaultHere_5 (fun v2 => ?_)
  refine xj_iald F hu1 dX1_termFaultHere_8 (fun v3 => ?_)
  refine xj_ite (c := v3 = 40) (fun h4 => ?_) (fun h4 => ?_)
  · refine xj_look F 69 dX1_termFaultHere_9 (by decide) (by subst h4; rfl) (by decide) ?_
    exact jX1_termFaultHere_69 F hdep a0 m0 ha0
  · skip
    refine xj_ite (c := v3 = 257) (fun h5 => ?_) (fun h5 => ?_)
    · refine xj_look F 69 dX1_termFaultHere_9 (by decide) (by subst h5; rfl) (by decide) ?_
      exact jX1_termFaultHere_69 F hdep a0 m0 ha0
    · skip
      refine xj_ite (c := v3 = 259) (fun h6 => ?_) (fun h6 => ?_)
      · refine xj_look F 52 dX1_termFaultHere_9 (by decide) (by subst h6; rfl) (by decide) ?_
        refine xj_aload_n F 0 dX1_termFaultHere_52 rfl ?_
        refine xj_getR F ha0 lgX1_37 dX1_termFaultHere_53 (fun u7 hu7 => ?_)
        refine xj_aload_n F 0 dX1_termFaultHere_56 rfl ?_
        refine xj_get F ha0 lgX1_52 dX1_termFaultHere_57 (fun v8 => ?_)
        refine xj_iald F hu7 dX1_termFaultHere_60 (fun v9 => ?_)
        refine xj_sipush F 999 dX1_termFaultHere_61 (by decide) ?_
        refine xj_icmp_le (tgt := 74) F dX1_termFaultHere_64 (by decide) ?_ ?_
        · exact jX1_termFaultHere_74 F hdep a0 m0 ha0
        · refine xj_iconst F 2 dX1_termFaultHere_67 (by decide) ?_
          exact xj_ret F rfl dX1_termFaultHere_68
      · skip
        refine xj_ite (c := v3 = 267) (fun h10 => ?_) (fun h10 => ?_)
        · refine xj_look F 69 dX1_termFaultHere_9 (by decide) (by subst h10; rfl) (by decide) ?_
          exact jX1_termFaultHere_69 F hdep a0 m0 ha0
        · skip
          have eh4 := xne 40 h4 rfl
          have eh5 := xne 257 h5 rfl
          have eh6 := xne 259 h6 rfl
          have eh10 := xne 267 h10 rfl
          refine xj_look F 72 dX1_termFaultHere_9 (by decide) (off := 63) (by simp only [lv_osw h4 (show Int32.toInt 40 = 40 from rfl), lv_osw h5 (show Int32.toInt 257 = 257 from rfl), lv_osw h6 (show Int32.toInt 259 = 259 from rfl), lv_osw h10 (show Int32.toInt 267 = 267 from rfl)]; rfl) (by decide) ?_
          refine xj_iconst F 1 dX1_termFaultHere_72 (by decide) ?_
          exact xj_ret F rfl dX1_termFaultHere_73
set_option maxRecDepth 20000 in
set_option maxHeartbeats 4000000 in
theorem wX1_putCode {G : XG} {l : Launch} {d : Nat} (hn : xN G) (hdep : 0 ≤ d) {m0 : XM} (hT : xT G m0) {a0 : Nat} {a1 : Int32} {a2 : Int32} {a3 : Int32} (ha0 : isa G a0 1) : ∀ z, fX1_putCode (xln G) a0 a1 a2 a3 m0 = some z → xMet G l mX1_putCode d [.ref (xad G a0), .int a1, .int a2, .int a3] m0 (xrV z) := by
  refine xMet_of (by decide +kernel) hn hT (Nat.le_of_ble_eq_true rfl) (fun X F => ?_)
  refine xj_sub (lv' := [(0, .ref (xad G a0)), (1, .int a1), (2, .int a2), (3, .int a3)]) [0, 1, 2, 3] rfl ?_
  unfold fX1_putCode
  refine xj_aload_n F 0 dX1_putCode_0 rfl ?_
  refine xj_getR F ha0 lgX1_12 dX1_putCode_1 (fun u1 hu1 => ?_)
  refine xj_getR F hu1 lgX1_195 dX1_putCode_4 (fun u2 hu2 => ?_)
  refine xj_astore (lv' := [(4, .ref (xad G u2)), (0, .ref (xad G a0)), (1, .int a1), (2, .int a2), (3, .int a3)]) F dX1_putCode_7 (by decide) rfl ?_
  refine xj_aload F 0 dX1_putCode_9 rfl ?_
  refine xj_get F hu2 lgX1_219 dX1_putCode_11 (fun v3 => ?_)
  refine xj_sipush F 600 dX1_putCode_14 (by decide) ?_
  refine xj_icmp_ge (tgt := 66) F dX1_putCode_17 (by decide) ?_ ?_
  · exact xj_retV F rfl dX1_putCode_66
  · refine xj_aload F 0 dX1_putCode_20 rfl ?_
    refine xj_getR F hu2 lgX1_243 dX1_putCode_22 (fun u4 hu4 => ?_)
    refine xj_aload F 0 dX1_putCode_25 rfl ?_
    refine xj_get F hu2 lgX1_219 dX1_putCode_27 (fun v5 => ?_)
    refine xj_iload_n F 2 dX1_putCode_30 rfl ?_
    refine xj_iast F hu4 dX1_putCode_31 (fun m6 => ?_)
    refine xj_aload F 0 dX1_putCode_32 rfl ?_
    refine xj_getR F hu2 lgX1_246 dX1_putCode_34 (fun u7 hu7 => ?_)
    refine xj_aload F 0 dX1_putCode_37 rfl ?_
    refine xj_get F hu2 lgX1_219 dX1_putCode_39 (fun v8 => ?_)
    refine xj_iload_n F 3 dX1_putCode_42 rfl ?_
    refine xj_iast F hu7 dX1_putCode_43 (fun m9 => ?_)
    refine xj_aload_n F 1 dX1_putCode_44 rfl ?_
    refine xj_getR F ha0 lgX1_22 dX1_putCode_45 (fun u10 hu10 => ?_)
    refine xj_aload F 0 dX1_putCode_48 rfl ?_
    refine xj_get F hu2 lgX1_219 dX1_putCode_50 (fun v11 => ?_)
    refine xj_iload_n F 4 dX1_putCode_53 rfl ?_
    refine xj_iast F hu10 dX1_putCode_54 (fun m12 => ?_)
    refine xj_aload F 0 dX1_putCode_55 rfl ?_
    refine xj_dup F dX1_putCode_57 rfl ?_
    refine xj_get F hu2 lgX1_219 dX1_putCode_58 (fun v13 => ?_)
    refine xj_iconst F 1 dX1_putCode_61 (by decide) ?_
    refine xj_iadd F dX1_putCode_62 (fun v14 => ?_)
    refine xj_put F hu2 lpX1_219 dX1_putCode_63 (fun m15 => ?_)
    exact xj_retV F rfl dX1_putCode_66
set_option maxRecDepth 20000 in
set_option maxHeartbeats 4000000 in
theorem wX1_operatorHere {G : XG} {l : Launch} {d : Nat} (hn : xN G) (hdep : 0 ≤ d) {m0 : XM} (hT : xT G m0) {a0 : Nat} (ha0 : isa G a0 1) : ∀ z, fX1_operatorHere (xln G) a0 m0 = some z → xMet G l mX1_operatorHere d [.ref (xad G a0)] m0 (xrI z) := by
  refine xMet_of (by decide +kernel) hn hT (Nat.le_of_ble_eq_true rfl) (fun X F => ?_)
  refine xj_sub (lv' := [(0, .ref (xad G a0))]) [0] rfl ?_
  unfold fX1_operatorHere
  refine xj_aload_n F 0 dX1_operatorHere_0 rfl ?_
  refine xj_getR F ha0 lgX1_31 dX1_operatorHere_1 (fun u1 hu1 => ?_)
  refine xj_aload_n F 0 dX1_operatorHere_4 rfl ?_
  refine xj_get F ha0 lgX1_52 dX1_operatorHere_5 (fun v2 => ?_)
  refine xj_iald F hu1 dX1_operatorHere_8 (fun v3 => ?_)
  refine xj_ite (c := v3 = 42) (fun h4 => ?_) (fun h4 => ?_)
  · refine xj_tabIn F 44 dX1_operatorHere_9 (by subst h4; decide) (by subst h4; decide) (by subst h4; rfl) (by decide) ?_
    refine xj_bipush F 6 dX1_operatorHere_44 (by decide) ?_
    exact xj_ret F rfl dX1_operatorHere_46
  · skip
    refine xj_ite (c := v3 = 43) (fun h5 => ?_) (fun h5 => ?_)
    · refine xj_tabIn F 40 dX1_operatorHere_9 (by subst h5; decide) (by subst h5; decide) (by subst h5; rfl) (by decide) ?_
      refine xj_iconst F 4 dX1_operatorHere_40 (by decide) ?_
      exact xj_ret F rfl dX1_operatorHere_41
    · skip
      refine xj_ite (c := v3 = 44) (fun h6 => ?_) (fun h6 => ?_)
      · refine xj_tabIn F 47 dX1_operatorHere_9 (by subst h6; decide) (by subst h6; decide) (by subst h6; rfl) (by decide) ?_
        refine xj_iconst F (-1) dX1_operatorHere_47 (by decide) ?_
        exact xj_ret F rfl dX1_operatorHere_48
      · skip
        refine xj_ite (c := v3 = 45) (fun h7 => ?_) (fun h7 => ?_)
        · refine xj_tabIn F 42 dX1_operatorHere_9 (by subst h7; decide) (by subst h7; decide) (by subst h7; rfl) (by decide) ?_
          refine xj_iconst F 5 dX1_operatorHere_42 (by decide) ?_
          exact xj_ret F rfl dX1_operatorHere_43
        · skip
          have eh4 := xne 42 h4 rfl
          have eh5 := xne 43 h5 rfl
          have eh6 := xne 44 h6 rfl
          have eh7 := xne 45 h7 rfl
          refine xj_tabOut F 47 dX1_operatorHere_9 (by omega) (by decide) ?_
          refine xj_iconst F (-1) dX1_operatorHere_47 (by decide) ?_
          exact xj_ret F rfl dX1_operatorHere_48
set_option maxRecDepth 20000 in
set_option maxHeartbeats 4000000 in
theorem jX1_readTerms_11 {G : XG} {l : Launch} {d : Nat} {X : XX} (F : xF (xE G d) G X mX1_readTerms) (hdep : 1 ≤ d) {e : Nat} {R : Nat → Nat → XM → Option (Int32 × XM)} (hge : e + 0 + 1 ≤ d) (hR1 : ∀ {m0 : XM}, xT G m0 → ∀ {q : Nat}, isa G q 1 → ∀ (z : Int32 × XM), R 1 q  m0 = some z → xMet G l mX1_readTerm (e + 0) [.ref (xad G q)] m0 (xrI z)) : ∀ (n : Nat) (q0 : Nat) (x1 : Int32) (m0 : XM), isa G q0 1 → xJ (xE G d) (xQ xrI G X mX1_readTerms) G l X mX1_readTerms 11 [(0, .ref (xad G q0)), (1, .int x1)] [] m0 (fX1_readTerms_11 (xln G) R n q0 x1 m0) := by
  intro n
  induction n with
  | zero => intro q0 x1 m0 hq0; exact xj_none
  | succ n hr11 =>
    intro q0 x1 m0 hq0
    unfold fX1_readTerms_11
    generalize hrg11 : (fun q0 x1 m0 => fX1_readTerms_11 (xln G) R n q0 x1 m0) = r11
    have hr11 : ∀ (q0 : Nat) (x1 : Int32) (m0 : XM), isa G q0 1 → xJ (xE G d) (xQ xrI G X mX1_readTerms) G l X mX1_readTerms 11 [(0, .ref (xad G q0)), (1, .int x1)] [] m0 (r11 q0 x1 m0) := by
      subst hrg11
      exact hr11
    clear hrg11
    refine xj_eq (xv_eq _ _) ?_
    refine xj_iload_n F 1 dX1_readTerms_11 rfl ?_
    refine xj_bipush F 8 dX1_readTerms_12 (by decide) ?_
    refine xj_icmp_ge (tgt := 61) F dX1_readTerms_14 (by decide) ?_ ?_
    · refine xj_iconst F 1 dX1_readTerms_61 (by decide) ?_
      exact xj_retZ F rfl rfl dX1_readTerms_62
    · refine xj_aload_n F 0 dX1_readTerms_17 rfl ?_
      refine xj_callVI (b := q0) (As := []) (d' := 0) F hq0 lmX1_234 rfl rfl (Nat.le_of_ble_eq_true rfl) (xfit (Nat.le_trans (Nat.le_of_ble_eq_true rfl) hdep)) dX1_readTerms_18 (fun hT z hz => wX1_operatorHere (xnd F) (Nat.le_refl _) hT (a0 := q0) hq0 z hz) (fun v2 m1 => ?_)
      refine xj_istore_n (lv' := [(2, .int v2), (0, .ref (xad G q0)), (1, .int x1)]) F dX1_readTerms_21 (by decide) rfl ?_
      refine xj_iload_n F 0 dX1_readTerms_22 rfl ?_
      refine xj_iconst F (-1) dX1_readTerms_23 (by decide) ?_
      refine xj_icmp_ne (tgt := 29) F dX1_readTerms_24 (by decide) ?_ ?_
      · refine xj_aload_n F 1 dX1_readTerms_29 rfl ?_
        refine xj_dup F dX1_readTerms_30 rfl ?_
        refine xj_get F hq0 lgX1_52 dX1_readTerms_31 (fun v3 => ?_)
        refine xj_iconst F 1 dX1_readTerms_34 (by decide) ?_
        refine xj_iadd F dX1_readTerms_35 (fun v4 => ?_)
        refine xj_put F hq0 lpX1_52 dX1_readTerms_36 (fun m5 => ?_)
        refine xj_aload_n F 1 dX1_readTerms_39 rfl ?_
        refine xj_callVI (b := q0) (As := []) (d' := e + 0) F hq0 lmX1_231 rfl rfl (Nat.le_of_ble_eq_true rfl) (xfit hge) dX1_readTerms_40 (fun hT z hz => hR1 hT hq0  z hz) (fun v7 m6 => ?_)
        refine xj_if_ne (tgt := 48) F dX1_readTerms_43 (by decide) ?_ ?_
        · refine xj_aload_n F 1 dX1_readTerms_48 rfl ?_
          refine xj_iload_n F 0 dX1_readTerms_49 rfl ?_
          refine xj_iconst F 0 dX1_readTerms_50 (by decide) ?_
          refine xj_iconst F 0 dX1_readTerms_51 (by decide) ?_
          refine xj_callVV (b := q0) (As := [.int v2, .int 0, .int 0]) (d' := 0) F hq0 lmX1_237 rfl rfl (Nat.le_of_ble_eq_true rfl) (xfit (Nat.le_trans (Nat.le_of_ble_eq_true rfl) hdep)) dX1_readTerms_52 (fun hT z hz => wX1_putCode (xnd F) (Nat.le_refl _) hT (a0 := q0) (a1 := v2) (a2 := 0) (a3 := 0) hq0 z hz) (fun m8 => ?_)
          refine xj_iinc F 2 1 (fun v9 => [(1, .int v9), (2, .int v2), (0, .ref (xad G q0))]) dX1_readTerms_55 rfl (by decide) (by decide) (fun _ => rfl) (fun v9 => ?_)
          refine xj_goto (tgt := 11) F dX1_readTerms_58 (by decide) ?_
          refine xj_sub (lv' := [(0, .ref (xad G q0)), (1, .int v9)]) [2, 0] rfl ?_
          exact hr11 q0 v9 m8 hq0
        · refine xj_iconst F 0 dX1_readTerms_46 (by decide) ?_
          exact xj_retZ F rfl rfl dX1_readTerms_47
      · refine xj_iconst F 1 dX1_readTerms_27 (by decide) ?_
        exact xj_retZ F rfl rfl dX1_readTerms_28
set_option maxRecDepth 20000 in
set_option maxHeartbeats 4000000 in
theorem wX1_readTerms {G : XG} {l : Launch} {d : Nat} (hn : xN G) (hdep : 1 ≤ d) {e : Nat} {R : Nat → Nat → XM → Option (Int32 × XM)} (hge : e + 0 + 1 ≤ d) (hR1 : ∀ {m0 : XM}, xT G m0 → ∀ {q : Nat}, isa G q 1 → ∀ (z : Int32 × XM), R 1 q  m0 = some z → xMet G l mX1_readTerm (e + 0) [.ref (xad G q)] m0 (xrI z)) {m0 : XM} (hT : xT G m0) {a0 : Nat} (ha0 : isa G a0 1) : ∀ z, fX1_readTerms (xln G) R a0 m0 = some z → xMet G l mX1_readTerms d [.ref (xad G a0)] m0 (xrI z) := by
  refine xMet_of (by decide +kernel) hn hT (Nat.le_of_ble_eq_true rfl) (fun X F => ?_)
  refine xj_sub (lv' := [(0, .ref (xad G a0))]) [0] rfl ?_
  unfold fX1_readTerms
  refine xj_aload_n F 0 dX1_readTerms_0 rfl ?_
  refine xj_callVI (b := a0) (As := []) (d' := e + 0) F ha0 lmX1_231 rfl rfl (Nat.le_of_ble_eq_true rfl) (xfit hge) dX1_readTerms_1 (fun hT z hz => hR1 hT ha0  z hz) (fun v2 m1 => ?_)
  refine xj_if_ne (tgt := 9) F dX1_readTerms_4 (by decide) ?_ ?_
  · refine xj_iconst F 0 dX1_readTerms_9 (by decide) ?_
    refine xj_istore_n (lv' := [(1, .int 0), (0, .ref (xad G a0))]) F dX1_readTerms_10 (by decide) rfl ?_
    refine xj_sub (lv' := [(0, .ref (xad G a0)), (1, .int 0)]) [1, 0] rfl ?_
    exact jX1_readTerms_11 F hdep hge hR1 XF a0 0 m1 ha0
  · refine xj_iconst F 0 dX1_readTerms_7 (by decide) ?_
    exact xj_retZ F rfl rfl dX1_readTerms_8
set_option maxRecDepth 20000 in
set_option maxHeartbeats 4000000 in
theorem jX1_readTerm_54 {G : XG} {l : Launch} {d : Nat} {X : XX} (F : xF (xE G d) G X mX1_readTerm) (hdep : 1 ≤ d) {e : Nat} {R : Nat → Nat → XM → Option (Int32 × XM)} (hge : e + 0 + 1 ≤ d) (hR0 : ∀ {m0 : XM}, xT G m0 → ∀ {q : Nat}, isa G q 1 → ∀ (z : Int32 × XM), R 0 q  m0 = some z → xMet G l mX1_readTerms (e + 0) [.ref (xad G q)] m0 (xrI z)) : ∀ (m0 : XM), xJ (xE G d) (xQ xrI G X mX1_readTerm) G l X mX1_readTerm 54 [] [] m0 (fX1_readTerm_54 (xln G) R  m0) := by
  intro m0
  unfold fX1_readTerm_54
  refine xj_iconst F 0 dX1_readTerm_54 (by decide) ?_
  exact xj_retZ F rfl rfl dX1_readTerm_55
set_option maxRecDepth 20000 in
set_option maxHeartbeats 4000000 in
theorem jX1_readTerm_164 {G : XG} {l : Launch} {d : Nat} {X : XX} (F : xF (xE G d) G X mX1_readTerm) (hdep : 1 ≤ d) {e : Nat} {R : Nat → Nat → XM → Option (Int32 × XM)} (hge : e + 0 + 1 ≤ d) (hR0 : ∀ {m0 : XM}, xT G m0 → ∀ {q : Nat}, isa G q 1 → ∀ (z : Int32 × XM), R 0 q  m0 = some z → xMet G l mX1_readTerms (e + 0) [.ref (xad G q)] m0 (xrI z)) : ∀ (m0 : XM), xJ (xE G d) (xQ xrI G X mX1_readTerm) G l X mX1_readTerm 164 [] [] m0 (fX1_readTerm_164 (xln G) R  m0) := by
  intro m0
  unfold fX1_readTerm_164
  refine xj_iconst F 1 dX1_readTerm_164 (by decide) ?_
  refine xj_goto (tgt := 169) F dX1_readTerm_165 (by decide) ?_
  exact xj_retZ F rfl rfl dX1_readTerm_169
set_option maxRecDepth 20000 in
set_option maxHeartbeats 4000000 in
theorem jX1_readTerm_145 {G : XG} {l : Launch} {d : Nat} {X : XX} (F : xF (xE G d) G X mX1_readTerm) (hdep : 1 ≤ d) {e : Nat} {R : Nat → Nat → XM → Option (Int32 × XM)} (hge : e + 0 + 1 ≤ d) (hR0 : ∀ {m0 : XM}, xT G m0 → ∀ {q : Nat}, isa G q 1 → ∀ (z : Int32 × XM), R 0 q  m0 = some z → xMet G l mX1_readTerms (e + 0) [.ref (xad G q)] m0 (xrI z)) : ∀ (q0 : Nat) (x2 : Int32) (x3 : Int32) (x4 : Int32) (p0 : Nat) (s1 : Int32) (m0 : XM), isa G q0 1 → isa G p0 1 → xJ (xE G d) (xQ xrI G X mX1_readTerm) G l X mX1_readTerm 145 [(0, .ref (xad G q0)), (2, .int x2), (3, .int x3), (4, .int x4)] [.int s1, .ref (xad G p0)] m0 (fX1_readTerm_145 (xln G) R q0 x2 x3 x4 p0 s1 m0) := by
  intro q0 x2 x3 x4 p0 s1 m0 hq0 hp0
  unfold fX1_readTerm_145
  refine xj_iload_n F 2 dX1_readTerm_145 rfl ?_
  refine xj_iload_n F 1 dX1_readTerm_146 rfl ?_
  refine xj_callVV (b := p0) (As := [.int s1, .int x3, .int x2]) (d' := 0) F hp0 lmX1_237 rfl rfl (Nat.le_of_ble_eq_true rfl) (xfit (Nat.le_trans (Nat.le_of_ble_eq_true rfl) hdep)) dX1_readTerm_147 (fun hT z hz => wX1_putCode (xnd F) (Nat.le_refl _) hT (a0 := p0) (a1 := s1) (a2 := x3) (a3 := x2) hp0 z hz) (fun m1 => ?_)
  refine xj_iload F 3 dX1_readTerm_150 rfl ?_
  refine xj_if_eq (tgt := 164) F dX1_readTerm_152 (by decide) ?_ ?_
  · refine xj_sub (lv' := []) [] rfl ?_
    exact jX1_readTerm_164 F hdep hge hR0 m1
  · refine xj_aload_n F 0 dX1_readTerm_155 rfl ?_
    refine xj_bipush F 41 dX1_readTerm_156 (by decide) ?_
    refine xj_callVI (b := q0) (As := [.int 41]) (d' := 0) F hq0 lmX1_67 rfl rfl (Nat.le_of_ble_eq_true rfl) (xfit (Nat.le_trans (Nat.le_of_ble_eq_true rfl) hdep)) dX1_readTerm_158 (fun hT z hz => wX1_mustTake (xnd F) (Nat.le_refl _) hT (a0 := q0) (a1 := 41) hq0 z hz) (fun v3 m2 => ?_)
    refine xj_if_eq (tgt := 168) F dX1_readTerm_161 (by decide) ?_ ?_
    · refine xj_iconst F 0 dX1_readTerm_168 (by decide) ?_
      exact xj_retZ F rfl rfl dX1_readTerm_169
    · refine xj_sub (lv' := []) [] rfl ?_
      exact jX1_readTerm_164 F hdep hge hR0 m2
set_option maxRecDepth 20000 in
set_option maxHeartbeats 4000000 in
theorem wX1_readTerm {G : XG} {l : Launch} {d : Nat} (hn : xN G) (hdep : 1 ≤ d) {e : Nat} {R : Nat → Nat → XM → Option (Int32 × XM)} (hge : e + 0 + 1 ≤ d) (hR0 : ∀ {m0 : XM}, xT G m0 → ∀ {q : Nat}, isa G q 1 → ∀ (z : Int32 × XM), R 0 q  m0 = some z → xMet G l mX1_readTerms (e + 0) [.ref (xad G q)] m0 (xrI z)) {m0 : XM} (hT : xT G m0) {a0 : Nat} (ha0 : isa G a0 1) : ∀ z, fX1_readTerm (xln G) R a0 m0 = some z → xMet G l mX1_readTerm d [.ref (xad G a0)] m0 (xrI z) := by
  refine xMet_of (by decide +kernel) hn hT (Nat.le_of_ble_eq_true rfl) (fun X F => ?_)
  refine xj_sub (lv' := [(0, .ref (xad G a0))]) [0] rfl ?_
  unfold fX1_readTerm
  refine xj_aload_n F 0 dX1_readTerm_0 rfl ?_
  refine xj_callVI (b := a0) (As := []) (d' := 0) F ha0 lmX1_240 rfl rfl (Nat.le_of_ble_eq_true rfl) (xfit (Nat.le_trans (Nat.le_of_ble_eq_true rfl) hdep)) dX1_readTerm_1 (fun hT z hz => wX1_termFaultHere (xnd F) (Nat.le_refl _) hT (a0 := a0) ha0 z hz) (fun v2 m1 => ?_)
  refine xj_istore_n (lv' := [(1, .int v2), (0, .ref (xad G a0))]) F dX1_readTerm_4 (by decide) rfl ?_
  refine xj_iload_n F 0 dX1_readTerm_5 rfl ?_
  refine xj_if_eq (tgt := 15) F dX1_readTerm_6 (by decide) ?_ ?_
  · refine xj_aload_n F 1 dX1_readTerm_15 rfl ?_
    refine xj_dup F dX1_readTerm_16 rfl ?_
    refine xj_get F ha0 lgX1_222 dX1_readTerm_17 (fun v3 => ?_)
    refine xj_iconst F 1 dX1_readTerm_20 (by decide) ?_
    refine xj_iadd F dX1_readTerm_21 (fun v4 => ?_)
    refine xj_put F ha0 lpX1_222 dX1_readTerm_22 (fun m5 => ?_)
    refine xj_aload_n F 1 dX1_readTerm_25 rfl ?_
    refine xj_bipush F 40 dX1_readTerm_26 (by decide) ?_
    refine xj_callVI (b := a0) (As := [.int 40]) (d' := 0) F ha0 lmX1_152 rfl rfl (Nat.le_of_ble_eq_true rfl) (xfit (Nat.le_trans (Nat.le_of_ble_eq_true rfl) hdep)) dX1_readTerm_28 (fun hT z hz => wX1_take (xnd F) (Nat.le_refl _) hT (a0 := a0) (a1 := 40) ha0 z hz) (fun v7 m6 => ?_)
    refine xj_if_eq (tgt := 56) F dX1_readTerm_31 (by decide) ?_ ?_
    · refine xj_aload_n F 1 dX1_readTerm_56 rfl ?_
      refine xj_sipush F 267 dX1_readTerm_57 (by decide) ?_
      refine xj_callVI (b := a0) (As := [.int 267]) (d' := 0) F ha0 lmX1_152 rfl rfl (Nat.le_of_ble_eq_true rfl) (xfit (Nat.le_trans (Nat.le_of_ble_eq_true rfl) hdep)) dX1_readTerm_60 (fun hT z hz => wX1_take (xnd F) (Nat.le_refl _) hT (a0 := a0) (a1 := 267) ha0 z hz) (fun v9 m8 => ?_)
      refine xj_if_eq (tgt := 75) F dX1_readTerm_63 (by decide) ?_ ?_
      · refine xj_aload_n F 1 dX1_readTerm_75 rfl ?_
        refine xj_sipush F 259 dX1_readTerm_76 (by decide) ?_
        refine xj_callVI (b := a0) (As := [.int 259]) (d' := 0) F ha0 lmX1_152 rfl rfl (Nat.le_of_ble_eq_true rfl) (xfit (Nat.le_trans (Nat.le_of_ble_eq_true rfl) hdep)) dX1_readTerm_79 (fun hT z hz => wX1_take (xnd F) (Nat.le_refl _) hT (a0 := a0) (a1 := 259) ha0 z hz) (fun v11 m10 => ?_)
        refine xj_if_eq (tgt := 104) F dX1_readTerm_82 (by decide) ?_ ?_
        · refine xj_aload_n F 1 dX1_readTerm_104 rfl ?_
          refine xj_getR F ha0 lgX1_34 dX1_readTerm_105 (fun u12 hu12 => ?_)
          refine xj_aload_n F 1 dX1_readTerm_108 rfl ?_
          refine xj_get F ha0 lgX1_52 dX1_readTerm_109 (fun v13 => ?_)
          refine xj_iald F hu12 dX1_readTerm_112 (fun v14 => ?_)
          refine xj_istore_n (lv' := [(2, .int v14), (1, .int v2), (0, .ref (xad G a0))]) F dX1_readTerm_113 (by decide) rfl ?_
          refine xj_aload_n F 2 dX1_readTerm_114 rfl ?_
          refine xj_callVI (b := a0) (As := []) (d' := 0) F ha0 lmX1_213 rfl rfl (Nat.le_of_ble_eq_true rfl) (xfit (Nat.le_trans (Nat.le_of_ble_eq_true rfl) hdep)) dX1_readTerm_115 (fun hT z hz => wX1_readKey (xnd F) (Nat.le_refl _) hT (a0 := a0) ha0 z hz) (fun v16 m15 => ?_)
          refine xj_istore_n (lv' := [(3, .int v16), (2, .int v14), (1, .int v2), (0, .ref (xad G a0))]) F dX1_readTerm_118 (by decide) rfl ?_
          refine xj_iload_n F 0 dX1_readTerm_119 rfl ?_
          refine xj_iconst F (-1) dX1_readTerm_120 (by decide) ?_
          refine xj_icmp_ne (tgt := 126) F dX1_readTerm_121 (by decide) ?_ ?_
          · refine xj_aload_n F 3 dX1_readTerm_126 rfl ?_
            refine xj_bipush F 40 dX1_readTerm_127 (by decide) ?_
            refine xj_callVI (b := a0) (As := [.int 40]) (d' := 0) F ha0 lmX1_152 rfl rfl (Nat.le_of_ble_eq_true rfl) (xfit (Nat.le_trans (Nat.le_of_ble_eq_true rfl) hdep)) dX1_readTerm_129 (fun hT z hz => wX1_take (xnd F) (Nat.le_refl _) hT (a0 := a0) (a1 := 40) ha0 z hz) (fun v18 m17 => ?_)
            refine xj_istore (lv' := [(4, .int v18), (3, .int v16), (2, .int v14), (1, .int v2), (0, .ref (xad G a0))]) F dX1_readTerm_132 (by decide) rfl ?_
            refine xj_aload_n F 4 dX1_readTerm_134 rfl ?_
            refine xj_iload F 0 dX1_readTerm_135 rfl ?_
            refine xj_if_eq (tgt := 144) F dX1_readTerm_137 (by decide) ?_ ?_
            · refine xj_iconst F 1 dX1_readTerm_144 (by decide) ?_
              refine xj_sub (lv' := [(0, .ref (xad G a0)), (2, .int v14), (3, .int v16), (4, .int v18)]) [4, 2, 1, 0] rfl ?_
              exact jX1_readTerm_145 F hdep hge hR0 a0 v14 v16 v18 a0 1 m17 ha0 ha0
            · refine xj_iconst F 2 dX1_readTerm_140 (by decide) ?_
              refine xj_goto (tgt := 145) F dX1_readTerm_141 (by decide) ?_
              refine xj_sub (lv' := [(0, .ref (xad G a0)), (2, .int v14), (3, .int v16), (4, .int v18)]) [4, 2, 1, 0] rfl ?_
              exact jX1_readTerm_145 F hdep hge hR0 a0 v14 v16 v18 a0 2 m17 ha0 ha0
          · refine xj_iconst F 0 dX1_readTerm_124 (by decide) ?_
            exact xj_retZ F rfl rfl dX1_readTerm_125
        · refine xj_aload_n F 1 dX1_readTerm_85 rfl ?_
          refine xj_iconst F 0 dX1_readTerm_86 (by decide) ?_
          refine xj_aload_n F 1 dX1_readTerm_87 rfl ?_
          refine xj_getR F ha0 lgX1_37 dX1_readTerm_88 (fun u19 hu19 => ?_)
          refine xj_aload_n F 1 dX1_readTerm_91 rfl ?_
          refine xj_get F ha0 lgX1_52 dX1_readTerm_92 (fun v20 => ?_)
          refine xj_iconst F 1 dX1_readTerm_95 (by decide) ?_
          refine xj_isub F dX1_readTerm_96 (fun v21 => ?_)
          refine xj_iald F hu19 dX1_readTerm_97 (fun v22 => ?_)
          refine xj_iconst F 0 dX1_readTerm_98 (by decide) ?_
          refine xj_callVV (b := a0) (As := [.int 0, .int v22, .int 0]) (d' := 0) F ha0 lmX1_237 rfl rfl (Nat.le_of_ble_eq_true rfl) (xfit (Nat.le_trans (Nat.le_of_ble_eq_true rfl) hdep)) dX1_readTerm_99 (fun hT z hz => wX1_putCode (xnd F) (Nat.le_refl _) hT (a0 := a0) (a1 := 0) (a2 := v22) (a3 := 0) ha0 z hz) (fun m23 => ?_)
          refine xj_iconst F 1 dX1_readTerm_102 (by decide) ?_
          exact xj_retZ F rfl rfl dX1_readTerm_103
      · refine xj_aload_n F 1 dX1_readTerm_66 rfl ?_
        refine xj_iconst F 3 dX1_readTerm_67 (by decide) ?_
        refine xj_iconst F 0 dX1_readTerm_68 (by decide) ?_
        refine xj_iconst F 0 dX1_readTerm_69 (by decide) ?_
        refine xj_callVV (b := a0) (As := [.int 3, .int 0, .int 0]) (d' := 0) F ha0 lmX1_237 rfl rfl (Nat.le_of_ble_eq_true rfl) (xfit (Nat.le_trans (Nat.le_of_ble_eq_true rfl) hdep)) dX1_readTerm_70 (fun hT z hz => wX1_putCode (xnd F) (Nat.le_refl _) hT (a0 := a0) (a1 := 3) (a2 := 0) (a3 := 0) ha0 z hz) (fun m24 => ?_)
        refine xj_iconst F 1 dX1_readTerm_73 (by decide) ?_
        exact xj_retZ F rfl rfl dX1_readTerm_74
    · refine xj_aload_n F 1 dX1_readTerm_34 rfl ?_
      refine xj_callVI (b := a0) (As := []) (d' := e + 0) F ha0 lmX1_225 rfl rfl (Nat.le_of_ble_eq_true rfl) (xfit hge) dX1_readTerm_35 (fun hT z hz => hR0 hT ha0  z hz) (fun v26 m25 => ?_)
      refine xj_if_eq (tgt := 54) F dX1_readTerm_38 (by decide) ?_ ?_
      · refine xj_sub (lv' := []) [] rfl ?_
        exact jX1_readTerm_54 F hdep hge hR0 m25
      · refine xj_aload_n F 1 dX1_readTerm_41 rfl ?_
        refine xj_bipush F 41 dX1_readTerm_42 (by decide) ?_
        refine xj_callVI (b := a0) (As := [.int 41]) (d' := 0) F ha0 lmX1_67 rfl rfl (Nat.le_of_ble_eq_true rfl) (xfit (Nat.le_trans (Nat.le_of_ble_eq_true rfl) hdep)) dX1_readTerm_44 (fun hT z hz => wX1_mustTake (xnd F) (Nat.le_refl _) hT (a0 := a0) (a1 := 41) ha0 z hz) (fun v28 m27 => ?_)
        refine xj_if_eq (tgt := 54) F dX1_readTerm_47 (by decide) ?_ ?_
        · refine xj_sub (lv' := []) [] rfl ?_
          exact jX1_readTerm_54 F hdep hge hR0 m27
        · refine xj_iconst F 1 dX1_readTerm_50 (by decide) ?_
          refine xj_goto (tgt := 55) F dX1_readTerm_51 (by decide) ?_
          exact xj_retZ F rfl rfl dX1_readTerm_55
  · refine xj_aload_n F 1 dX1_readTerm_9 rfl ?_
    refine xj_iload_n F 0 dX1_readTerm_10 rfl ?_
    refine xj_callVI (b := a0) (As := [.int v2]) (d' := 0) F ha0 lmX1_146 rfl rfl (Nat.le_of_ble_eq_true rfl) (xfit (Nat.le_trans (Nat.le_of_ble_eq_true rfl) hdep)) dX1_readTerm_11 (fun hT z hz => wX1_refuse (xnd F) (Nat.le_refl _) hT (a0 := a0) (a1 := v2) ha0 z hz) (fun v30 m29 => ?_)
    exact xj_retB F rfl dX1_readTerm_14
set_option maxRecDepth 20000 in
set_option maxHeartbeats 4000000 in
theorem gwX1_readTerms {G : XG} {l : Launch} (hn : xN G) : ∀ (e : Nat), (∀ {m0 : XM}, xT G m0 → ∀ {q : Nat}, isa G q 1 → ∀ (z : Int32 × XM), gX1_readTerms (xln G) e 0 q  m0 = some z → xMet G l mX1_readTerms (e + 0) [.ref (xad G q)] m0 (xrI z)) ∧ (∀ {m0 : XM}, xT G m0 → ∀ {q : Nat}, isa G q 1 → ∀ (z : Int32 × XM), gX1_readTerms (xln G) e 1 q  m0 = some z → xMet G l mX1_readTerm (e + 0) [.ref (xad G q)] m0 (xrI z)) := by
  intro e
  induction e with
  | zero => exact ⟨(by intro m0 hT q hq  z hz; unfold gX1_readTerms at hz; cases hz), (by intro m0 hT q hq  z hz; unfold gX1_readTerms at hz; cases hz)⟩
  | succ e ih =>
    generalize hRg : (fun t q  m0 => gX1_readTerms (xln G) e t q  m0) = R
    have hR0 : ∀ {m0 : XM}, xT G m0 → ∀ {q : Nat}, isa G q 1 → ∀ (z : Int32 × XM), R 0 q  m0 = some z → xMet G l mX1_readTerms (e + 0) [.ref (xad G q)] m0 (xrI z) := by
      subst hRg
      exact ih.1
    have hR1 : ∀ {m0 : XM}, xT G m0 → ∀ {q : Nat}, isa G q 1 → ∀ (z : Int32 × XM), R 1 q  m0 = some z → xMet G l mX1_readTerm (e + 0) [.ref (xad G q)] m0 (xrI z) := by
      subst hRg
      exact ih.2
    have p0 : ∀ {m0 : XM}, xT G m0 → ∀ {q : Nat}, isa G q 1 → ∀ (z : Int32 × XM), gX1_readTerms (xln G) (e + 1) 0 q  m0 = some z → xMet G l mX1_readTerms (e + 1 + 0) [.ref (xad G q)] m0 (xrI z) := by
      intro m0 hT q hq  z hz
      unfold gX1_readTerms at hz
      rw [hRg] at hz
      have hz := hz
      simp only [xv, if_pos (show 0 = 0 from rfl)] at hz
      exact wX1_readTerms hn (by omega) (e := e) (R := R) (by omega) hR1 hT (a0 := q) hq z hz
    have p1 : ∀ {m0 : XM}, xT G m0 → ∀ {q : Nat}, isa G q 1 → ∀ (z : Int32 × XM), gX1_readTerms (xln G) (e + 1) 1 q  m0 = some z → xMet G l mX1_readTerm (e + 1 + 0) [.ref (xad G q)] m0 (xrI z) := by
      intro m0 hT q hq  z hz
      unfold gX1_readTerms at hz
      rw [hRg] at hz
      have hz := hz
      simp only [xv, if_neg (show ¬ 1 = 0 by decide), if_pos (show 1 = 1 from rfl)] at hz
      exact wX1_readTerm hn (by omega) (e := e) (R := R) (by omega) hR0 hT (a0 := q) hq z hz
    exact ⟨p0, p1⟩
set_option maxRecDepth 20000 in
set_option maxHeartbeats 4000000 in
theorem jX1_readDeed_179 {G : XG} {l : Launch} {d : Nat} {X : XX} (F : xF (xE G d) G X mX1_readDeed) (hdep : 41 ≤ d) : ∀ (m0 : XM), xJ (xE G d) (xQ xrI G X mX1_readDeed) G l X mX1_readDeed 179 [] [] m0 (fX1_readDeed_179 (xln G)  m0) := by
  intro m0
  unfold fX1_readDeed_179
  refine xj_iconst F 0 dX1_readDeed_179 (by decide) ?_
  exact xj_retZ F rfl rfl dX1_readDeed_180
set_option maxRecDepth 20000 in
set_option maxHeartbeats 4000000 in
theorem jX1_readDeed_128 {G : XG} {l : Launch} {d : Nat} {X : XX} (F : xF (xE G d) G X mX1_readDeed) (hdep : 41 ≤ d) : ∀ (q0 : Nat) (q3 : Nat) (x4 : Int32) (m0 : XM), isa G q0 1 → isa G q3 5 → xJ (xE G d) (xQ xrI G X mX1_readDeed) G l X mX1_readDeed 128 [(0, .ref (xad G q0)), (3, .ref (xad G q3)), (4, .int x4)] [] m0 (fX1_readDeed_128 (xln G) q0 q3 x4 m0) := by
  intro q0 q3 x4 m0 hq0 hq3
  unfold fX1_readDeed_128
  refine xj_aload_n F 1 dX1_readDeed_128 rfl ?_
  refine xj_getR F hq3 lgX1_216 dX1_readDeed_129 (fun u1 hu1 => ?_)
  refine xj_iload F 2 dX1_readDeed_132 rfl ?_
  refine xj_aload_n F 1 dX1_readDeed_134 rfl ?_
  refine xj_get F hq3 lgX1_219 dX1_readDeed_135 (fun v2 => ?_)
  refine xj_iast F hu1 dX1_readDeed_138 (fun m3 => ?_)
  refine xj_aload_n F 0 dX1_readDeed_139 rfl ?_
  refine xj_iconst F 0 dX1_readDeed_140 (by decide) ?_
  refine xj_put F hq0 lpX1_222 dX1_readDeed_141 (fun m4 => ?_)
  refine xj_aload_n F 0 dX1_readDeed_144 rfl ?_
  refine xj_callVI (b := q0) (As := []) (d' := 40) F hq0 lmX1_225 rfl rfl (Nat.le_of_ble_eq_true rfl) (xfit (Nat.le_trans (Nat.le_of_ble_eq_true rfl) hdep)) dX1_readDeed_145 (fun hT z hz => (gwX1_readTerms (xnd F) 40).1 hT hq0  z hz) (fun v6 m5 => ?_)
  refine xj_istore (lv' := [(5, .int v6), (0, .ref (xad G q0)), (3, .ref (xad G q3)), (4, .int x4)]) F dX1_readDeed_148 (by decide) rfl ?_
  refine xj_aload_n F 2 dX1_readDeed_150 rfl ?_
  refine xj_getR F hq3 lgX1_228 dX1_readDeed_151 (fun u7 hu7 => ?_)
  refine xj_iload F 3 dX1_readDeed_154 rfl ?_
  refine xj_aload_n F 2 dX1_readDeed_156 rfl ?_
  refine xj_get F hq3 lgX1_219 dX1_readDeed_157 (fun v8 => ?_)
  refine xj_iast F hu7 dX1_readDeed_160 (fun m9 => ?_)
  refine xj_iload F 0 dX1_readDeed_161 rfl ?_
  refine xj_if_eq (tgt := 179) F dX1_readDeed_163 (by decide) ?_ ?_
  · refine xj_sub (lv' := []) [] rfl ?_
    exact jX1_readDeed_179 F hdep m9
  · refine xj_aload_n F 1 dX1_readDeed_166 rfl ?_
    refine xj_bipush F 59 dX1_readDeed_167 (by decide) ?_
    refine xj_callVI (b := q0) (As := [.int 59]) (d' := 0) F hq0 lmX1_67 rfl rfl (Nat.le_of_ble_eq_true rfl) (xfit (Nat.le_trans (Nat.le_of_ble_eq_true rfl) hdep)) dX1_readDeed_169 (fun hT z hz => wX1_mustTake (xnd F) (Nat.le_refl _) hT (a0 := q0) (a1 := 59) hq0 z hz) (fun v11 m10 => ?_)
    refine xj_if_eq (tgt := 179) F dX1_readDeed_172 (by decide) ?_ ?_
    · refine xj_sub (lv' := []) [] rfl ?_
      exact jX1_readDeed_179 F hdep m10
    · refine xj_iconst F 1 dX1_readDeed_175 (by decide) ?_
      refine xj_goto (tgt := 180) F dX1_readDeed_176 (by decide) ?_
      exact xj_retZ F rfl rfl dX1_readDeed_180
set_option maxRecDepth 20000 in
set_option maxHeartbeats 4000000 in
theorem jX1_readDeed_101 {G : XG} {l : Launch} {d : Nat} {X : XX} (F : xF (xE G d) G X mX1_readDeed) (hdep : 41 ≤ d) : ∀ (q0 : Nat) (x2 : Int32) (q3 : Nat) (x4 : Int32) (p0 : Nat) (s1 : Int32) (s2 : Int32) (m0 : XM), isa G q0 1 → isa G q3 5 → isa G p0 10 → xJ (xE G d) (xQ xrI G X mX1_readDeed) G l X mX1_readDeed 101 [(0, .ref (xad G q0)), (2, .int x2), (3, .ref (xad G q3)), (4, .int x4)] [.int s2, .int s1, .ref (xad G p0)] m0 (fX1_readDeed_101 (xln G) q0 x2 q3 x4 p0 s1 s2 m0) := by
  intro q0 x2 q3 x4 p0 s1 s2 m0 hq0 hq3 hp0
  unfold fX1_readDeed_101
  refine xj_iast F hp0 dX1_readDeed_101 (fun m1 => ?_)
  refine xj_iload_n F 1 dX1_readDeed_102 rfl ?_
  refine xj_if_eq (tgt := 128) F dX1_readDeed_103 (by decide) ?_ ?_
  · refine xj_sub (lv' := [(0, .ref (xad G q0)), (3, .ref (xad G q3)), (4, .int x4)]) [0, 2, 3] rfl ?_
    exact jX1_readDeed_128 F hdep q0 q3 x4 m1 hq0 hq3
  · refine xj_aload_n F 2 dX1_readDeed_106 rfl ?_
    refine xj_getR F hq3 lgX1_210 dX1_readDeed_107 (fun u2 hu2 => ?_)
    refine xj_iload F 3 dX1_readDeed_110 rfl ?_
    refine xj_iald F hu2 dX1_readDeed_112 (fun v3 => ?_)
    refine xj_iconst F (-1) dX1_readDeed_113 (by decide) ?_
    refine xj_icmp_eq (tgt := 126) F dX1_readDeed_114 (by decide) ?_ ?_
    · refine xj_iconst F 0 dX1_readDeed_126 (by decide) ?_
      exact xj_retZ F rfl rfl dX1_readDeed_127
    · refine xj_aload_n F 0 dX1_readDeed_117 rfl ?_
      refine xj_bipush F 61 dX1_readDeed_118 (by decide) ?_
      refine xj_callVI (b := q0) (As := [.int 61]) (d' := 0) F hq0 lmX1_67 rfl rfl (Nat.le_of_ble_eq_true rfl) (xfit (Nat.le_trans (Nat.le_of_ble_eq_true rfl) hdep)) dX1_readDeed_120 (fun hT z hz => wX1_mustTake (xnd F) (Nat.le_refl _) hT (a0 := q0) (a1 := 61) hq0 z hz) (fun v5 m4 => ?_)
      refine xj_if_ne (tgt := 128) F dX1_readDeed_123 (by decide) ?_ ?_
      · refine xj_sub (lv' := [(0, .ref (xad G q0)), (3, .ref (xad G q3)), (4, .int x4)]) [0, 2, 3] rfl ?_
        exact jX1_readDeed_128 F hdep q0 q3 x4 m4 hq0 hq3
      · refine xj_iconst F 0 dX1_readDeed_126 (by decide) ?_
        exact xj_retZ F rfl rfl dX1_readDeed_127
set_option maxRecDepth 20000 in
set_option maxHeartbeats 4000000 in
theorem jX1_readDeed_67 {G : XG} {l : Launch} {d : Nat} {X : XX} (F : xF (xE G d) G X mX1_readDeed) (hdep : 41 ≤ d) : ∀ (q0 : Nat) (x2 : Int32) (q3 : Nat) (x4 : Int32) (m0 : XM), isa G q0 1 → isa G q3 5 → xJ (xE G d) (xQ xrI G X mX1_readDeed) G l X mX1_readDeed 67 [(0, .ref (xad G q0)), (2, .int x2), (3, .ref (xad G q3)), (4, .int x4)] [] m0 (fX1_readDeed_67 (xln G) q0 x2 q3 x4 m0) := by
  intro q0 x2 q3 x4 m0 hq0 hq3
  unfold fX1_readDeed_67
  refine xj_aload_n F 0 dX1_readDeed_67 rfl ?_
  refine xj_getR F hq0 lgX1_25 dX1_readDeed_68 (fun u1 hu1 => ?_)
  refine xj_iload F 3 dX1_readDeed_71 rfl ?_
  refine xj_aload_n F 0 dX1_readDeed_73 rfl ?_
  refine xj_getR F hq0 lgX1_34 dX1_readDeed_74 (fun u2 hu2 => ?_)
  refine xj_aload_n F 0 dX1_readDeed_77 rfl ?_
  refine xj_get F hq0 lgX1_52 dX1_readDeed_78 (fun v3 => ?_)
  refine xj_iald F hu2 dX1_readDeed_81 (fun v4 => ?_)
  refine xj_iast F hu1 dX1_readDeed_82 (fun m5 => ?_)
  refine xj_aload_n F 2 dX1_readDeed_83 rfl ?_
  refine xj_getR F hq3 lgX1_210 dX1_readDeed_84 (fun u6 hu6 => ?_)
  refine xj_iload F 3 dX1_readDeed_87 rfl ?_
  refine xj_iload_n F 1 dX1_readDeed_89 rfl ?_
  refine xj_if_eq (tgt := 100) F dX1_readDeed_90 (by decide) ?_ ?_
  · refine xj_iconst F (-1) dX1_readDeed_100 (by decide) ?_
    exact jX1_readDeed_101 F hdep q0 x2 q3 x4 u6 x4 (-1) m5 hq0 hq3 hu6
  · refine xj_aload_n F 0 dX1_readDeed_93 rfl ?_
    refine xj_callVI (b := q0) (As := []) (d' := 0) F hq0 lmX1_213 rfl rfl (Nat.le_of_ble_eq_true rfl) (xfit (Nat.le_trans (Nat.le_of_ble_eq_true rfl) hdep)) dX1_readDeed_94 (fun hT z hz => wX1_readKey (xnd F) (Nat.le_refl _) hT (a0 := q0) hq0 z hz) (fun v8 m7 => ?_)
    refine xj_goto (tgt := 101) F dX1_readDeed_97 (by decide) ?_
    exact jX1_readDeed_101 F hdep q0 x2 q3 x4 u6 x4 v8 m7 hq0 hq3 hu6
set_option maxRecDepth 20000 in
set_option maxHeartbeats 4000000 in
theorem wX1_readDeed {G : XG} {l : Launch} {d : Nat} (hn : xN G) (hdep : 41 ≤ d) {m0 : XM} (hT : xT G m0) {a0 : Nat} {a1 : Int32} {a2 : Int32} (ha0 : isa G a0 1) : ∀ z, fX1_readDeed (xln G) a0 a1 a2 m0 = some z → xMet G l mX1_readDeed d [.ref (xad G a0), .int a1, .int a2] m0 (xrI z) := by
  refine xMet_of (by decide +kernel) hn hT (Nat.le_of_ble_eq_true rfl) (fun X F => ?_)
  refine xj_sub (lv' := [(0, .ref (xad G a0)), (1, .int a1), (2, .int a2)]) [0, 1, 2] rfl ?_
  unfold fX1_readDeed
  refine xj_aload_n F 0 dX1_readDeed_0 rfl ?_
  refine xj_getR F ha0 lgX1_12 dX1_readDeed_1 (fun u1 hu1 => ?_)
  refine xj_getR F hu1 lgX1_195 dX1_readDeed_4 (fun u2 hu2 => ?_)
  refine xj_astore_n (lv' := [(3, .ref (xad G u2)), (0, .ref (xad G a0)), (1, .int a1), (2, .int a2)]) F dX1_readDeed_7 (by decide) rfl ?_
  refine xj_aload_n F 0 dX1_readDeed_8 rfl ?_
  refine xj_get F hu2 lgX1_199 dX1_readDeed_9 (fun v3 => ?_)
  refine xj_istore (lv' := [(4, .int v3), (3, .ref (xad G u2)), (0, .ref (xad G a0)), (1, .int a1), (2, .int a2)]) F dX1_readDeed_12 (by decide) rfl ?_
  refine xj_iload F 0 dX1_readDeed_14 rfl ?_
  refine xj_sipush F 300 dX1_readDeed_16 (by decide) ?_
  refine xj_icmp_lt (tgt := 28) F dX1_readDeed_19 (by decide) ?_ ?_
  · refine xj_aload_n F 1 dX1_readDeed_28 rfl ?_
    refine xj_dup F dX1_readDeed_29 rfl ?_
    refine xj_get F hu2 lgX1_199 dX1_readDeed_30 (fun v4 => ?_)
    refine xj_iconst F 1 dX1_readDeed_33 (by decide) ?_
    refine xj_iadd F dX1_readDeed_34 (fun v5 => ?_)
    refine xj_put F hu2 lpX1_199 dX1_readDeed_35 (fun m6 => ?_)
    refine xj_iload_n F 3 dX1_readDeed_38 rfl ?_
    refine xj_iconst F (-1) dX1_readDeed_39 (by decide) ?_
    refine xj_icmp_eq (tgt := 67) F dX1_readDeed_40 (by decide) ?_ ?_
    · refine xj_sub (lv' := [(0, .ref (xad G a0)), (2, .int a2), (3, .ref (xad G u2)), (4, .int v3)]) [2, 4, 1, 0] rfl ?_
      exact jX1_readDeed_67 F hdep a0 a2 u2 v3 m6 ha0 hu2
    · refine xj_aload_n F 2 dX1_readDeed_43 rfl ?_
      refine xj_getR F ha0 lgX1_12 dX1_readDeed_44 (fun u7 hu7 => ?_)
      refine xj_getR F hu7 lgX1_207 dX1_readDeed_47 (fun u8 hu8 => ?_)
      refine xj_iload_n F 3 dX1_readDeed_50 rfl ?_
      refine xj_iald F hu8 dX1_readDeed_51 (fun v9 => ?_)
      refine xj_iconst F (-1) dX1_readDeed_52 (by decide) ?_
      refine xj_icmp_ne (tgt := 67) F dX1_readDeed_53 (by decide) ?_ ?_
      · refine xj_sub (lv' := [(0, .ref (xad G a0)), (2, .int a2), (3, .ref (xad G u2)), (4, .int v3)]) [2, 4, 1, 0] rfl ?_
        exact jX1_readDeed_67 F hdep a0 a2 u2 v3 m6 ha0 hu2
      · refine xj_aload_n F 2 dX1_readDeed_56 rfl ?_
        refine xj_getR F ha0 lgX1_12 dX1_readDeed_57 (fun u10 hu10 => ?_)
        refine xj_getR F hu10 lgX1_207 dX1_readDeed_60 (fun u11 hu11 => ?_)
        refine xj_iload_n F 3 dX1_readDeed_63 rfl ?_
        refine xj_iload F 0 dX1_readDeed_64 rfl ?_
        refine xj_iast F hu11 dX1_readDeed_66 (fun m12 => ?_)
        refine xj_sub (lv' := [(0, .ref (xad G a0)), (2, .int a2), (3, .ref (xad G u2)), (4, .int v3)]) [2, 4, 1, 0] rfl ?_
        exact jX1_readDeed_67 F hdep a0 a2 u2 v3 m12 ha0 hu2
  · refine xj_aload_n F 2 dX1_readDeed_22 rfl ?_
    refine xj_iconst F 3 dX1_readDeed_23 (by decide) ?_
    refine xj_callVI (b := a0) (As := [.int 3]) (d' := 0) F ha0 lmX1_146 rfl rfl (Nat.le_of_ble_eq_true rfl) (xfit (Nat.le_trans (Nat.le_of_ble_eq_true rfl) hdep)) dX1_readDeed_24 (fun hT z hz => wX1_refuse (xnd F) (Nat.le_refl _) hT (a0 := a0) (a1 := 3) ha0 z hz) (fun v14 m13 => ?_)
    exact xj_retB F rfl dX1_readDeed_27
set_option maxRecDepth 20000 in
set_option maxHeartbeats 4000000 in
theorem wX1_readVariable {G : XG} {l : Launch} {d : Nat} (hn : xN G) (hdep : 42 ≤ d) {m0 : XM} (hT : xT G m0) {a0 : Nat} {a1 : Int32} {a2 : Int32} (ha0 : isa G a0 1) : ∀ z, fX1_readVariable (xln G) a0 a1 a2 m0 = some z → xMet G l mX1_readVariable d [.ref (xad G a0), .int a1, .int a2] m0 (xrI z) := by
  refine xMet_of (by decide +kernel) hn hT (Nat.le_of_ble_eq_true rfl) (fun X F => ?_)
  refine xj_sub (lv' := [(0, .ref (xad G a0)), (1, .int a1), (2, .int a2)]) [0, 1, 2] rfl ?_
  unfold fX1_readVariable
  refine xj_aload_n F 0 dX1_readVariable_0 rfl ?_
  refine xj_iload_n F 1 dX1_readVariable_1 rfl ?_
  refine xj_iload_n F 2 dX1_readVariable_2 rfl ?_
  refine xj_callVI (b := a0) (As := [.int a1, .int a2]) (d' := 1) F ha0 lmX1_188 rfl rfl (Nat.le_of_ble_eq_true rfl) (xfit (Nat.le_trans (Nat.le_of_ble_eq_true rfl) hdep)) dX1_readVariable_3 (fun hT z hz => wX1_readName (xnd F) (Nat.le_refl _) hT (a0 := a0) (a1 := a1) (a2 := a2) ha0 z hz) (fun v2 m1 => ?_)
  refine xj_if_ne (tgt := 11) F dX1_readVariable_6 (by decide) ?_ ?_
  · refine xj_aload_n F 0 dX1_readVariable_11 rfl ?_
    refine xj_bipush F 61 dX1_readVariable_12 (by decide) ?_
    refine xj_callVI (b := a0) (As := [.int 61]) (d' := 0) F ha0 lmX1_152 rfl rfl (Nat.le_of_ble_eq_true rfl) (xfit (Nat.le_trans (Nat.le_of_ble_eq_true rfl) hdep)) dX1_readVariable_14 (fun hT z hz => wX1_take (xnd F) (Nat.le_refl _) hT (a0 := a0) (a1 := 61) ha0 z hz) (fun v4 m3 => ?_)
    refine xj_if_eq (tgt := 29) F dX1_readVariable_17 (by decide) ?_ ?_
    · refine xj_aload_n F 0 dX1_readVariable_29 rfl ?_
      refine xj_bipush F 59 dX1_readVariable_30 (by decide) ?_
      refine xj_callVI (b := a0) (As := [.int 59]) (d' := 0) F ha0 lmX1_67 rfl rfl (Nat.le_of_ble_eq_true rfl) (xfit (Nat.le_trans (Nat.le_of_ble_eq_true rfl) hdep)) dX1_readVariable_32 (fun hT z hz => wX1_mustTake (xnd F) (Nat.le_refl _) hT (a0 := a0) (a1 := 59) ha0 z hz) (fun v6 m5 => ?_)
      exact xj_retB F rfl dX1_readVariable_35
    · refine xj_aload_n F 0 dX1_readVariable_20 rfl ?_
      refine xj_iload_n F 2 dX1_readVariable_21 rfl ?_
      refine xj_iconst F 0 dX1_readVariable_22 (by decide) ?_
      refine xj_callVI (b := a0) (As := [.int a2, .int 0]) (d' := 41) F ha0 lmX1_178 rfl rfl (Nat.le_of_ble_eq_true rfl) (xfit (Nat.le_trans (Nat.le_of_ble_eq_true rfl) hdep)) dX1_readVariable_23 (fun hT z hz => wX1_readDeed (xnd F) (Nat.le_refl _) hT (a0 := a0) (a1 := a2) (a2 := 0) ha0 z hz) (fun v8 m7 => ?_)
      refine xj_goto (tgt := 35) F dX1_readVariable_26 (by decide) ?_
      exact xj_retB F rfl dX1_readVariable_35
  · refine xj_iconst F 0 dX1_readVariable_9 (by decide) ?_
    exact xj_retZ F rfl rfl dX1_readVariable_10
set_option maxRecDepth 20000 in
set_option maxHeartbeats 4000000 in
theorem jX1_readFunction_107 {G : XG} {l : Launch} {d : Nat} {X : XX} (F : xF (xE G d) G X mX1_readFunction) (hdep : 42 ≤ d) : ∀ (m0 : XM), xJ (xE G d) (xQ xrI G X mX1_readFunction) G l X mX1_readFunction 107 [] [] m0 (fX1_readFunction_107 (xln G)  m0) := by
  intro m0
  unfold fX1_readFunction_107
  refine xj_iconst F 0 dX1_readFunction_107 (by decide) ?_
  exact xj_retZ F rfl rfl dX1_readFunction_108
set_option maxRecDepth 20000 in
set_option maxHeartbeats 4000000 in
theorem jX1_readFunction_22 {G : XG} {l : Launch} {d : Nat} {X : XX} (F : xF (xE G d) G X mX1_readFunction) (hdep : 42 ≤ d) : ∀ (n : Nat) (q0 : Nat) (x2 : Int32) (x3 : Int32) (m0 : XM), isa G q0 1 → xJ (xE G d) (xQ xrI G X mX1_readFunction) G l X mX1_readFunction 22 [(0, .ref (xad G q0)), (2, .int x2), (3, .int x3)] [] m0 (fX1_readFunction_22 (xln G) n q0 x2 x3 m0) := by
  intro n
  induction n with
  | zero => intro q0 x2 x3 m0 hq0; exact xj_none
  | succ n hr22 =>
    intro q0 x2 x3 m0 hq0
    unfold fX1_readFunction_22
    generalize hrg22 : (fun q0 x2 x3 m0 => fX1_readFunction_22 (xln G) n q0 x2 x3 m0) = r22
    have hr22 : ∀ (q0 : Nat) (x2 : Int32) (x3 : Int32) (m0 : XM), isa G q0 1 → xJ (xE G d) (xQ xrI G X mX1_readFunction) G l X mX1_readFunction 22 [(0, .ref (xad G q0)), (2, .int x2), (3, .int x3)] [] m0 (r22 q0 x2 x3 m0) := by
      subst hrg22
      exact hr22
    clear hrg22
    refine xj_eq (xv_eq _ _) ?_
    refine xj_aload_n F 0 dX1_readFunction_22 rfl ?_
    refine xj_getR F hq0 lgX1_31 dX1_readFunction_23 (fun u1 hu1 => ?_)
    refine xj_aload_n F 0 dX1_readFunction_26 rfl ?_
    refine xj_get F hq0 lgX1_52 dX1_readFunction_27 (fun v2 => ?_)
    refine xj_iald F hu1 dX1_readFunction_30 (fun v3 => ?_)
    refine xj_sipush F 257 dX1_readFunction_31 (by decide) ?_
    refine xj_icmp_ne (tgt := 65) F dX1_readFunction_34 (by decide) ?_ ?_
    · refine xj_aload_n F 0 dX1_readFunction_65 rfl ?_
      refine xj_getR F hq0 lgX1_12 dX1_readFunction_66 (fun u4 hu4 => ?_)
      refine xj_getR F hu4 lgX1_191 dX1_readFunction_69 (fun u5 hu5 => ?_)
      refine xj_iload_n F 1 dX1_readFunction_72 rfl ?_
      refine xj_iload_n F 2 dX1_readFunction_73 rfl ?_
      refine xj_iast F hu5 dX1_readFunction_74 (fun m6 => ?_)
      refine xj_aload_n F 0 dX1_readFunction_75 rfl ?_
      refine xj_sipush F 266 dX1_readFunction_76 (by decide) ?_
      refine xj_callVI (b := q0) (As := [.int 266]) (d' := 0) F hq0 lmX1_67 rfl rfl (Nat.le_of_ble_eq_true rfl) (xfit (Nat.le_trans (Nat.le_of_ble_eq_true rfl) hdep)) dX1_readFunction_79 (fun hT z hz => wX1_mustTake (xnd F) (Nat.le_refl _) hT (a0 := q0) (a1 := 266) hq0 z hz) (fun v8 m7 => ?_)
      refine xj_if_eq (tgt := 107) F dX1_readFunction_82 (by decide) ?_ ?_
      · refine xj_sub (lv' := []) [] rfl ?_
        exact jX1_readFunction_107 F hdep m7
      · refine xj_aload_n F 0 dX1_readFunction_85 rfl ?_
        refine xj_iload_n F 1 dX1_readFunction_86 rfl ?_
        refine xj_iconst F 0 dX1_readFunction_87 (by decide) ?_
        refine xj_callVI (b := q0) (As := [.int x2, .int 0]) (d' := 41) F hq0 lmX1_178 rfl rfl (Nat.le_of_ble_eq_true rfl) (xfit (Nat.le_trans (Nat.le_of_ble_eq_true rfl) hdep)) dX1_readFunction_88 (fun hT z hz => wX1_readDeed (xnd F) (Nat.le_refl _) hT (a0 := q0) (a1 := x2) (a2 := 0) hq0 z hz) (fun v10 m9 => ?_)
        refine xj_if_eq (tgt := 107) F dX1_readFunction_91 (by decide) ?_ ?_
        · refine xj_sub (lv' := []) [] rfl ?_
          exact jX1_readFunction_107 F hdep m9
        · refine xj_aload_n F 0 dX1_readFunction_94 rfl ?_
          refine xj_bipush F 125 dX1_readFunction_95 (by decide) ?_
          refine xj_callVI (b := q0) (As := [.int 125]) (d' := 0) F hq0 lmX1_67 rfl rfl (Nat.le_of_ble_eq_true rfl) (xfit (Nat.le_trans (Nat.le_of_ble_eq_true rfl) hdep)) dX1_readFunction_97 (fun hT z hz => wX1_mustTake (xnd F) (Nat.le_refl _) hT (a0 := q0) (a1 := 125) hq0 z hz) (fun v12 m11 => ?_)
          refine xj_if_eq (tgt := 107) F dX1_readFunction_100 (by decide) ?_ ?_
          · refine xj_sub (lv' := []) [] rfl ?_
            exact jX1_readFunction_107 F hdep m11
          · refine xj_iconst F 1 dX1_readFunction_103 (by decide) ?_
            refine xj_goto (tgt := 108) F dX1_readFunction_104 (by decide) ?_
            exact xj_retZ F rfl rfl dX1_readFunction_108
    · refine xj_iload_n F 2 dX1_readFunction_37 rfl ?_
      refine xj_iconst F 4 dX1_readFunction_38 (by decide) ?_
      refine xj_icmp_lt (tgt := 48) F dX1_readFunction_39 (by decide) ?_ ?_
      · refine xj_aload_n F 0 dX1_readFunction_48 rfl ?_
        refine xj_iload_n F 1 dX1_readFunction_49 rfl ?_
        refine xj_iconst F 1 dX1_readFunction_50 (by decide) ?_
        refine xj_callVI (b := q0) (As := [.int x2, .int 1]) (d' := 41) F hq0 lmX1_178 rfl rfl (Nat.le_of_ble_eq_true rfl) (xfit (Nat.le_trans (Nat.le_of_ble_eq_true rfl) hdep)) dX1_readFunction_51 (fun hT z hz => wX1_readDeed (xnd F) (Nat.le_refl _) hT (a0 := q0) (a1 := x2) (a2 := 1) hq0 z hz) (fun v14 m13 => ?_)
        refine xj_if_ne (tgt := 59) F dX1_readFunction_54 (by decide) ?_ ?_
        · refine xj_iinc F 2 1 (fun v15 => [(3, .int v15), (0, .ref (xad G q0)), (2, .int x2)]) dX1_readFunction_59 rfl (by decide) (by decide) (fun _ => rfl) (fun v15 => ?_)
          refine xj_goto (tgt := 22) F dX1_readFunction_62 (by decide) ?_
          refine xj_sub (lv' := [(0, .ref (xad G q0)), (2, .int x2), (3, .int v15)]) [1, 2, 0] rfl ?_
          exact hr22 q0 x2 v15 m13 hq0
        · refine xj_iconst F 0 dX1_readFunction_57 (by decide) ?_
          exact xj_retZ F rfl rfl dX1_readFunction_58
      · refine xj_aload_n F 0 dX1_readFunction_42 rfl ?_
        refine xj_iconst F 3 dX1_readFunction_43 (by decide) ?_
        refine xj_callVI (b := q0) (As := [.int 3]) (d' := 0) F hq0 lmX1_146 rfl rfl (Nat.le_of_ble_eq_true rfl) (xfit (Nat.le_trans (Nat.le_of_ble_eq_true rfl) hdep)) dX1_readFunction_44 (fun hT z hz => wX1_refuse (xnd F) (Nat.le_refl _) hT (a0 := q0) (a1 := 3) hq0 z hz) (fun v17 m16 => ?_)
        exact xj_retB F rfl dX1_readFunction_47
set_option maxRecDepth 20000 in
set_option maxHeartbeats 4000000 in
theorem wX1_readFunction {G : XG} {l : Launch} {d : Nat} (hn : xN G) (hdep : 42 ≤ d) {m0 : XM} (hT : xT G m0) {a0 : Nat} {a1 : Int32} {a2 : Int32} (ha0 : isa G a0 1) : ∀ z, fX1_readFunction (xln G) a0 a1 a2 m0 = some z → xMet G l mX1_readFunction d [.ref (xad G a0), .int a1, .int a2] m0 (xrI z) := by
  refine xMet_of (by decide +kernel) hn hT (Nat.le_of_ble_eq_true rfl) (fun X F => ?_)
  refine xj_sub (lv' := [(0, .ref (xad G a0)), (1, .int a1), (2, .int a2)]) [0, 1, 2] rfl ?_
  unfold fX1_readFunction
  refine xj_aload_n F 0 dX1_readFunction_0 rfl ?_
  refine xj_iload_n F 1 dX1_readFunction_1 rfl ?_
  refine xj_iload_n F 2 dX1_readFunction_2 rfl ?_
  refine xj_callVI (b := a0) (As := [.int a1, .int a2]) (d' := 1) F ha0 lmX1_188 rfl rfl (Nat.le_of_ble_eq_true rfl) (xfit (Nat.le_trans (Nat.le_of_ble_eq_true rfl) hdep)) dX1_readFunction_3 (fun hT z hz => wX1_readName (xnd F) (Nat.le_refl _) hT (a0 := a0) (a1 := a1) (a2 := a2) ha0 z hz) (fun v2 m1 => ?_)
  refine xj_if_eq (tgt := 18) F dX1_readFunction_6 (by decide) ?_ ?_
  · refine xj_iconst F 0 dX1_readFunction_18 (by decide) ?_
    exact xj_retZ F rfl rfl dX1_readFunction_19
  · refine xj_aload_n F 0 dX1_readFunction_9 rfl ?_
    refine xj_bipush F 123 dX1_readFunction_10 (by decide) ?_
    refine xj_callVI (b := a0) (As := [.int 123]) (d' := 0) F ha0 lmX1_67 rfl rfl (Nat.le_of_ble_eq_true rfl) (xfit (Nat.le_trans (Nat.le_of_ble_eq_true rfl) hdep)) dX1_readFunction_12 (fun hT z hz => wX1_mustTake (xnd F) (Nat.le_refl _) hT (a0 := a0) (a1 := 123) ha0 z hz) (fun v4 m3 => ?_)
    refine xj_if_ne (tgt := 20) F dX1_readFunction_15 (by decide) ?_ ?_
    · refine xj_iconst F 0 dX1_readFunction_20 (by decide) ?_
      refine xj_istore_n (lv' := [(3, .int 0), (0, .ref (xad G a0)), (1, .int a1), (2, .int a2)]) F dX1_readFunction_21 (by decide) rfl ?_
      refine xj_sub (lv' := [(0, .ref (xad G a0)), (2, .int a2), (3, .int 0)]) [1, 3, 0] rfl ?_
      exact jX1_readFunction_22 F hdep XF a0 a2 0 m3 ha0
    · refine xj_iconst F 0 dX1_readFunction_18 (by decide) ?_
      exact xj_retZ F rfl rfl dX1_readFunction_19
set_option maxRecDepth 20000 in
set_option maxHeartbeats 4000000 in
theorem wX1_readMember {G : XG} {l : Launch} {d : Nat} (hn : xN G) (hdep : 43 ≤ d) {m0 : XM} (hT : xT G m0) {a0 : Nat} {a1 : Int32} {a2 : Int32} (ha0 : isa G a0 1) : ∀ z, fX1_readMember (xln G) a0 a1 a2 m0 = some z → xMet G l mX1_readMember d [.ref (xad G a0), .int a1, .int a2] m0 (xrI z) := by
  refine xMet_of (by decide +kernel) hn hT (Nat.le_of_ble_eq_true rfl) (fun X F => ?_)
  refine xj_sub (lv' := [(0, .ref (xad G a0)), (1, .int a1), (2, .int a2)]) [0, 1, 2] rfl ?_
  unfold fX1_readMember
  refine xj_aload_n F 0 dX1_readMember_0 rfl ?_
  refine xj_getR F ha0 lgX1_31 dX1_readMember_1 (fun u1 hu1 => ?_)
  refine xj_aload_n F 0 dX1_readMember_4 rfl ?_
  refine xj_get F ha0 lgX1_52 dX1_readMember_5 (fun v2 => ?_)
  refine xj_iald F hu1 dX1_readMember_8 (fun v3 => ?_)
  refine xj_ite (c := v3 = 262) (fun h4 => ?_) (fun h4 => ?_)
  · refine xj_tabIn F 40 dX1_readMember_9 (by subst h4; decide) (by subst h4; decide) (by subst h4; rfl) (by decide) ?_
    refine xj_aload_n F 0 dX1_readMember_40 rfl ?_
    refine xj_getR F ha0 lgX1_12 dX1_readMember_41 (fun u5 hu5 => ?_)
    refine xj_iload_n F 2 dX1_readMember_44 rfl ?_
    refine xj_iconst F 0 dX1_readMember_45 (by decide) ?_
    refine xj_callVV (b := u5) (As := [.int a2, .int 0]) (d' := 0) F hu5 lmX1_165 rfl rfl (Nat.le_of_ble_eq_true rfl) (xfit (Nat.le_trans (Nat.le_of_ble_eq_true rfl) hdep)) dX1_readMember_46 (fun hT z hz => wX6_addMember (xnd F) (Nat.le_refl _) hT (a0 := u5) (a1 := a2) (a2 := 0) hu5 z hz) (fun m6 => ?_)
    refine xj_aload_n F 0 dX1_readMember_49 rfl ?_
    refine xj_iload_n F 1 dX1_readMember_50 rfl ?_
    refine xj_iload_n F 2 dX1_readMember_51 rfl ?_
    refine xj_callVI (b := a0) (As := [.int a1, .int a2]) (d' := 2) F ha0 lmX1_169 rfl rfl (Nat.le_of_ble_eq_true rfl) (xfit (Nat.le_trans (Nat.le_of_ble_eq_true rfl) hdep)) dX1_readMember_52 (fun hT z hz => wX1_readConstant (xnd F) (Nat.le_refl _) hT (a0 := a0) (a1 := a1) (a2 := a2) ha0 z hz) (fun v8 m7 => ?_)
    exact xj_retB F rfl dX1_readMember_55
  · skip
    refine xj_ite (c := v3 = 263) (fun h9 => ?_) (fun h9 => ?_)
    · refine xj_tabIn F 56 dX1_readMember_9 (by subst h9; decide) (by subst h9; decide) (by subst h9; rfl) (by decide) ?_
      refine xj_aload_n F 0 dX1_readMember_56 rfl ?_
      refine xj_getR F ha0 lgX1_12 dX1_readMember_57 (fun u10 hu10 => ?_)
      refine xj_iload_n F 2 dX1_readMember_60 rfl ?_
      refine xj_iconst F 1 dX1_readMember_61 (by decide) ?_
      refine xj_callVV (b := u10) (As := [.int a2, .int 1]) (d' := 0) F hu10 lmX1_165 rfl rfl (Nat.le_of_ble_eq_true rfl) (xfit (Nat.le_trans (Nat.le_of_ble_eq_true rfl) hdep)) dX1_readMember_62 (fun hT z hz => wX6_addMember (xnd F) (Nat.le_refl _) hT (a0 := u10) (a1 := a2) (a2 := 1) hu10 z hz) (fun m11 => ?_)
      refine xj_aload_n F 0 dX1_readMember_65 rfl ?_
      refine xj_iload_n F 1 dX1_readMember_66 rfl ?_
      refine xj_iload_n F 2 dX1_readMember_67 rfl ?_
      refine xj_callVI (b := a0) (As := [.int a1, .int a2]) (d' := 42) F ha0 lmX1_172 rfl rfl (Nat.le_of_ble_eq_true rfl) (xfit (Nat.le_trans (Nat.le_of_ble_eq_true rfl) hdep)) dX1_readMember_68 (fun hT z hz => wX1_readVariable (xnd F) (Nat.le_refl _) hT (a0 := a0) (a1 := a1) (a2 := a2) ha0 z hz) (fun v13 m12 => ?_)
      exact xj_retB F rfl dX1_readMember_71
    · skip
      refine xj_ite (c := v3 = 264) (fun h14 => ?_) (fun h14 => ?_)
      · refine xj_tabIn F 88 dX1_readMember_9 (by subst h14; decide) (by subst h14; decide) (by subst h14; rfl) (by decide) ?_
        refine xj_aload_n F 0 dX1_readMember_88 rfl ?_
        refine xj_getR F ha0 lgX1_12 dX1_readMember_89 (fun u15 hu15 => ?_)
        refine xj_iload_n F 2 dX1_readMember_92 rfl ?_
        refine xj_iconst F 2 dX1_readMember_93 (by decide) ?_
        refine xj_callVV (b := u15) (As := [.int a2, .int 2]) (d' := 0) F hu15 lmX1_165 rfl rfl (Nat.le_of_ble_eq_true rfl) (xfit (Nat.le_trans (Nat.le_of_ble_eq_true rfl) hdep)) dX1_readMember_94 (fun hT z hz => wX6_addMember (xnd F) (Nat.le_refl _) hT (a0 := u15) (a1 := a2) (a2 := 2) hu15 z hz) (fun m16 => ?_)
        refine xj_aload_n F 0 dX1_readMember_97 rfl ?_
        refine xj_dup F dX1_readMember_98 rfl ?_
        refine xj_get F ha0 lgX1_52 dX1_readMember_99 (fun v17 => ?_)
        refine xj_iconst F 1 dX1_readMember_102 (by decide) ?_
        refine xj_iadd F dX1_readMember_103 (fun v18 => ?_)
        refine xj_put F ha0 lpX1_52 dX1_readMember_104 (fun m19 => ?_)
        refine xj_aload_n F 0 dX1_readMember_107 rfl ?_
        refine xj_iload_n F 2 dX1_readMember_108 rfl ?_
        refine xj_iconst F 0 dX1_readMember_109 (by decide) ?_
        refine xj_callVI (b := a0) (As := [.int a2, .int 0]) (d' := 41) F ha0 lmX1_178 rfl rfl (Nat.le_of_ble_eq_true rfl) (xfit (Nat.le_trans (Nat.le_of_ble_eq_true rfl) hdep)) dX1_readMember_110 (fun hT z hz => wX1_readDeed (xnd F) (Nat.le_refl _) hT (a0 := a0) (a1 := a2) (a2 := 0) ha0 z hz) (fun v21 m20 => ?_)
        exact xj_retB F rfl dX1_readMember_113
      · skip
        refine xj_ite (c := v3 = 265) (fun h22 => ?_) (fun h22 => ?_)
        · refine xj_tabIn F 72 dX1_readMember_9 (by subst h22; decide) (by subst h22; decide) (by subst h22; rfl) (by decide) ?_
          refine xj_aload_n F 0 dX1_readMember_72 rfl ?_
          refine xj_getR F ha0 lgX1_12 dX1_readMember_73 (fun u23 hu23 => ?_)
          refine xj_iload_n F 2 dX1_readMember_76 rfl ?_
          refine xj_iconst F 4 dX1_readMember_77 (by decide) ?_
          refine xj_callVV (b := u23) (As := [.int a2, .int 4]) (d' := 0) F hu23 lmX1_165 rfl rfl (Nat.le_of_ble_eq_true rfl) (xfit (Nat.le_trans (Nat.le_of_ble_eq_true rfl) hdep)) dX1_readMember_78 (fun hT z hz => wX6_addMember (xnd F) (Nat.le_refl _) hT (a0 := u23) (a1 := a2) (a2 := 4) hu23 z hz) (fun m24 => ?_)
          refine xj_aload_n F 0 dX1_readMember_81 rfl ?_
          refine xj_iload_n F 1 dX1_readMember_82 rfl ?_
          refine xj_iload_n F 2 dX1_readMember_83 rfl ?_
          refine xj_callVI (b := a0) (As := [.int a1, .int a2]) (d' := 42) F ha0 lmX1_175 rfl rfl (Nat.le_of_ble_eq_true rfl) (xfit (Nat.le_trans (Nat.le_of_ble_eq_true rfl) hdep)) dX1_readMember_84 (fun hT z hz => wX1_readFunction (xnd F) (Nat.le_refl _) hT (a0 := a0) (a1 := a1) (a2 := a2) ha0 z hz) (fun v26 m25 => ?_)
          exact xj_retB F rfl dX1_readMember_87
        · skip
          have eh4 := xne 262 h4 rfl
          have eh9 := xne 263 h9 rfl
          have eh14 := xne 264 h14 rfl
          have eh22 := xne 265 h22 rfl
          refine xj_tabOut F 114 dX1_readMember_9 (by omega) (by decide) ?_
          refine xj_aload_n F 0 dX1_readMember_114 rfl ?_
          refine xj_getR F ha0 lgX1_12 dX1_readMember_115 (fun u27 hu27 => ?_)
          refine xj_iload_n F 2 dX1_readMember_118 rfl ?_
          refine xj_iconst F 3 dX1_readMember_119 (by decide) ?_
          refine xj_callVV (b := u27) (As := [.int a2, .int 3]) (d' := 0) F hu27 lmX1_165 rfl rfl (Nat.le_of_ble_eq_true rfl) (xfit (Nat.le_trans (Nat.le_of_ble_eq_true rfl) hdep)) dX1_readMember_120 (fun hT z hz => wX6_addMember (xnd F) (Nat.le_refl _) hT (a0 := u27) (a1 := a2) (a2 := 3) hu27 z hz) (fun m28 => ?_)
          refine xj_aload_n F 0 dX1_readMember_123 rfl ?_
          refine xj_iload_n F 2 dX1_readMember_124 rfl ?_
          refine xj_iconst F 1 dX1_readMember_125 (by decide) ?_
          refine xj_callVI (b := a0) (As := [.int a2, .int 1]) (d' := 41) F ha0 lmX1_178 rfl rfl (Nat.le_of_ble_eq_true rfl) (xfit (Nat.le_trans (Nat.le_of_ble_eq_true rfl) hdep)) dX1_readMember_126 (fun hT z hz => wX1_readDeed (xnd F) (Nat.le_refl _) hT (a0 := a0) (a1 := a2) (a2 := 1) ha0 z hz) (fun v30 m29 => ?_)
          exact xj_retB F rfl dX1_readMember_129
set_option maxRecDepth 20000 in
set_option maxHeartbeats 4000000 in
theorem jX1_readUnit_34 {G : XG} {l : Launch} {d : Nat} {X : XX} (F : xF (xE G d) G X mX1_readUnit) (hdep : 44 ≤ d) : ∀ (n : Nat) (q0 : Nat) (x1 : Int32) (x2 : Int32) (m0 : XM), isa G q0 1 → xJ (xE G d) (xQ xrI G X mX1_readUnit) G l X mX1_readUnit 34 [(0, .ref (xad G q0)), (1, .int x1), (2, .int x2)] [] m0 (fX1_readUnit_34 (xln G) n q0 x1 x2 m0) := by
  intro n
  induction n with
  | zero => intro q0 x1 x2 m0 hq0; exact xj_none
  | succ n hr34 =>
    intro q0 x1 x2 m0 hq0
    unfold fX1_readUnit_34
    generalize hrg34 : (fun q0 x1 x2 m0 => fX1_readUnit_34 (xln G) n q0 x1 x2 m0) = r34
    have hr34 : ∀ (q0 : Nat) (x1 : Int32) (x2 : Int32) (m0 : XM), isa G q0 1 → xJ (xE G d) (xQ xrI G X mX1_readUnit) G l X mX1_readUnit 34 [(0, .ref (xad G q0)), (1, .int x1), (2, .int x2)] [] m0 (r34 q0 x1 x2 m0) := by
      subst hrg34
      exact hr34
    clear hrg34
    refine xj_eq (xv_eq _ _) ?_
    refine xj_aload_n F 0 dX1_readUnit_34 rfl ?_
    refine xj_bipush F 125 dX1_readUnit_35 (by decide) ?_
    refine xj_callVI (b := q0) (As := [.int 125]) (d' := 0) F hq0 lmX1_152 rfl rfl (Nat.le_of_ble_eq_true rfl) (xfit (Nat.le_trans (Nat.le_of_ble_eq_true rfl) hdep)) dX1_readUnit_37 (fun hT z hz => wX1_take (xnd F) (Nat.le_refl _) hT (a0 := q0) (a1 := 125) hq0 z hz) (fun v2 m1 => ?_)
    refine xj_if_ne (tgt := 90) F dX1_readUnit_40 (by decide) ?_ ?_
    · refine xj_iconst F 1 dX1_readUnit_90 (by decide) ?_
      exact xj_retZ F rfl rfl dX1_readUnit_91
    · refine xj_aload_n F 0 dX1_readUnit_43 rfl ?_
      refine xj_callVI (b := q0) (As := []) (d' := 0) F hq0 lmX1_155 rfl rfl (Nat.le_of_ble_eq_true rfl) (xfit (Nat.le_trans (Nat.le_of_ble_eq_true rfl) hdep)) dX1_readUnit_44 (fun hT z hz => wX1_isMemberHere (xnd F) (Nat.le_refl _) hT (a0 := q0) hq0 z hz) (fun v4 m3 => ?_)
      refine xj_if_ne (tgt := 56) F dX1_readUnit_47 (by decide) ?_ ?_
      · refine xj_iload_n F 2 dX1_readUnit_56 rfl ?_
        refine xj_bipush F 12 dX1_readUnit_57 (by decide) ?_
        refine xj_icmp_lt (tgt := 68) F dX1_readUnit_59 (by decide) ?_ ?_
        · refine xj_aload_n F 0 dX1_readUnit_68 rfl ?_
          refine xj_iload_n F 1 dX1_readUnit_69 rfl ?_
          refine xj_iload_n F 1 dX1_readUnit_70 rfl ?_
          refine xj_bipush F 12 dX1_readUnit_71 (by decide) ?_
          refine xj_imul F dX1_readUnit_73 (fun v5 => ?_)
          refine xj_iload_n F 2 dX1_readUnit_74 rfl ?_
          refine xj_iadd F dX1_readUnit_75 (fun v6 => ?_)
          refine xj_callVI (b := q0) (As := [.int x1, .int v6]) (d' := 43) F hq0 lmX1_158 rfl rfl (Nat.le_of_ble_eq_true rfl) (xfit (Nat.le_trans (Nat.le_of_ble_eq_true rfl) hdep)) dX1_readUnit_76 (fun hT z hz => wX1_readMember (xnd F) (Nat.le_refl _) hT (a0 := q0) (a1 := x1) (a2 := v6) hq0 z hz) (fun v8 m7 => ?_)
          refine xj_if_ne (tgt := 84) F dX1_readUnit_79 (by decide) ?_ ?_
          · refine xj_iinc F 2 1 (fun v9 => [(2, .int v9), (0, .ref (xad G q0)), (1, .int x1)]) dX1_readUnit_84 rfl (by decide) (by decide) (fun _ => rfl) (fun v9 => ?_)
            refine xj_goto (tgt := 34) F dX1_readUnit_87 (by decide) ?_
            refine xj_sub (lv' := [(0, .ref (xad G q0)), (1, .int x1), (2, .int v9)]) [1, 2, 0] rfl ?_
            exact hr34 q0 x1 v9 m7 hq0
          · refine xj_iconst F 0 dX1_readUnit_82 (by decide) ?_
            exact xj_retZ F rfl rfl dX1_readUnit_83
        · refine xj_aload_n F 0 dX1_readUnit_62 rfl ?_
          refine xj_iconst F 3 dX1_readUnit_63 (by decide) ?_
          refine xj_callVI (b := q0) (As := [.int 3]) (d' := 0) F hq0 lmX1_146 rfl rfl (Nat.le_of_ble_eq_true rfl) (xfit (Nat.le_trans (Nat.le_of_ble_eq_true rfl) hdep)) dX1_readUnit_64 (fun hT z hz => wX1_refuse (xnd F) (Nat.le_refl _) hT (a0 := q0) (a1 := 3) hq0 z hz) (fun v11 m10 => ?_)
          exact xj_retB F rfl dX1_readUnit_67
      · refine xj_aload_n F 0 dX1_readUnit_50 rfl ?_
        refine xj_iconst F 1 dX1_readUnit_51 (by decide) ?_
        refine xj_callVI (b := q0) (As := [.int 1]) (d' := 0) F hq0 lmX1_146 rfl rfl (Nat.le_of_ble_eq_true rfl) (xfit (Nat.le_trans (Nat.le_of_ble_eq_true rfl) hdep)) dX1_readUnit_52 (fun hT z hz => wX1_refuse (xnd F) (Nat.le_refl _) hT (a0 := q0) (a1 := 1) hq0 z hz) (fun v13 m12 => ?_)
        exact xj_retB F rfl dX1_readUnit_55
set_option maxRecDepth 20000 in
set_option maxHeartbeats 4000000 in
theorem wX1_readUnit {G : XG} {l : Launch} {d : Nat} (hn : xN G) (hdep : 44 ≤ d) {m0 : XM} (hT : xT G m0) {a0 : Nat} {a1 : Int32} (ha0 : isa G a0 1) : ∀ z, fX1_readUnit (xln G) a0 a1 m0 = some z → xMet G l mX1_readUnit d [.ref (xad G a0), .int a1] m0 (xrI z) := by
  refine xMet_of (by decide +kernel) hn hT (Nat.le_of_ble_eq_true rfl) (fun X F => ?_)
  refine xj_sub (lv' := [(0, .ref (xad G a0)), (1, .int a1)]) [0, 1] rfl ?_
  unfold fX1_readUnit
  refine xj_iload_n F 1 dX1_readUnit_0 rfl ?_
  refine xj_bipush F 7 dX1_readUnit_1 (by decide) ?_
  refine xj_icmp_lt (tgt := 12) F dX1_readUnit_3 (by decide) ?_ ?_
  · refine xj_aload_n F 0 dX1_readUnit_12 rfl ?_
    refine xj_dup F dX1_readUnit_13 rfl ?_
    refine xj_get F ha0 lgX1_52 dX1_readUnit_14 (fun v1 => ?_)
    refine xj_iconst F 1 dX1_readUnit_17 (by decide) ?_
    refine xj_iadd F dX1_readUnit_18 (fun v2 => ?_)
    refine xj_put F ha0 lpX1_52 dX1_readUnit_19 (fun m3 => ?_)
    refine xj_aload_n F 0 dX1_readUnit_22 rfl ?_
    refine xj_iload_n F 1 dX1_readUnit_23 rfl ?_
    refine xj_callVI (b := a0) (As := [.int a1]) (d' := 1) F ha0 lmX1_149 rfl rfl (Nat.le_of_ble_eq_true rfl) (xfit (Nat.le_trans (Nat.le_of_ble_eq_true rfl) hdep)) dX1_readUnit_24 (fun hT z hz => wX1_readHead (xnd F) (Nat.le_refl _) hT (a0 := a0) (a1 := a1) ha0 z hz) (fun v5 m4 => ?_)
    refine xj_if_ne (tgt := 32) F dX1_readUnit_27 (by decide) ?_ ?_
    · refine xj_iconst F 0 dX1_readUnit_32 (by decide) ?_
      refine xj_istore_n (lv' := [(2, .int 0), (0, .ref (xad G a0)), (1, .int a1)]) F dX1_readUnit_33 (by decide) rfl ?_
      refine xj_sub (lv' := [(0, .ref (xad G a0)), (1, .int a1), (2, .int 0)]) [1, 2, 0] rfl ?_
      exact jX1_readUnit_34 F hdep XF a0 a1 0 m4 ha0
    · refine xj_iconst F 0 dX1_readUnit_30 (by decide) ?_
      exact xj_retZ F rfl rfl dX1_readUnit_31
  · refine xj_aload_n F 0 dX1_readUnit_6 rfl ?_
    refine xj_iconst F 3 dX1_readUnit_7 (by decide) ?_
    refine xj_callVI (b := a0) (As := [.int 3]) (d' := 0) F ha0 lmX1_146 rfl rfl (Nat.le_of_ble_eq_true rfl) (xfit (Nat.le_trans (Nat.le_of_ble_eq_true rfl) hdep)) dX1_readUnit_8 (fun hT z hz => wX1_refuse (xnd F) (Nat.le_refl _) hT (a0 := a0) (a1 := 3) ha0 z hz) (fun v7 m6 => ?_)
    exact xj_retB F rfl dX1_readUnit_11
set_option maxRecDepth 20000 in
set_option maxHeartbeats 4000000 in
theorem jX1_readMain_128 {G : XG} {l : Launch} {d : Nat} {X : XX} (F : xF (xE G d) G X mX1_readMain) (hdep : 42 ≤ d) {r25 : Nat → Int32 → XM → Option (Int32 × XM)} (hr25 : ∀ (q0 : Nat) (x1 : Int32) (m0 : XM), isa G q0 1 → xJ (xE G d) (xQ xrI G X mX1_readMain) G l X mX1_readMain 25 [(0, .ref (xad G q0)), (1, .int x1)] [] m0 (r25 q0 x1 m0)) : ∀ (q0 : Nat) (x1 : Int32) (p0 : Nat) (s1 : Int32) (s2 : Int32) (m0 : XM), isa G q0 1 → isa G p0 1 → xJ (xE G d) (xQ xrI G X mX1_readMain) G l X mX1_readMain 128 [(0, .ref (xad G q0)), (1, .int x1)] [.int s2, .int s1, .ref (xad G p0)] m0 (fX1_readMain_128 (xln G) r25 q0 x1 p0 s1 s2 m0) := by
  intro q0 x1 p0 s1 s2 m0 hq0 hp0
  unfold fX1_readMain_128
  refine xj_callVI (b := p0) (As := [.int s1, .int s2]) (d' := 41) F hp0 lmX1_178 rfl rfl (Nat.le_of_ble_eq_true rfl) (xfit (Nat.le_trans (Nat.le_of_ble_eq_true rfl) hdep)) dX1_readMain_128 (fun hT z hz => wX1_readDeed (xnd F) (Nat.le_refl _) hT (a0 := p0) (a1 := s1) (a2 := s2) hp0 z hz) (fun v2 m1 => ?_)
  refine xj_if_ne (tgt := 136) F dX1_readMain_131 (by decide) ?_ ?_
  · refine xj_iinc F 1 1 (fun v3 => [(1, .int v3), (0, .ref (xad G q0))]) dX1_readMain_136 rfl (by decide) (by decide) (fun _ => rfl) (fun v3 => ?_)
    refine xj_goto (tgt := 25) F dX1_readMain_139 (by decide) ?_
    refine xj_sub (lv' := [(0, .ref (xad G q0)), (1, .int v3)]) [1, 0] rfl ?_
    exact hr25 q0 v3 m1 hq0
  · refine xj_iconst F 0 dX1_readMain_134 (by decide) ?_
    exact xj_retZ F rfl rfl dX1_readMain_135
set_option maxRecDepth 20000 in
set_option maxHeartbeats 4000000 in
theorem jX1_readMain_70 {G : XG} {l : Launch} {d : Nat} {X : XX} (F : xF (xE G d) G X mX1_readMain) (hdep : 42 ≤ d) {r25 : Nat → Int32 → XM → Option (Int32 × XM)} (hr25 : ∀ (q0 : Nat) (x1 : Int32) (m0 : XM), isa G q0 1 → xJ (xE G d) (xQ xrI G X mX1_readMain) G l X mX1_readMain 25 [(0, .ref (xad G q0)), (1, .int x1)] [] m0 (r25 q0 x1 m0)) : ∀ (q0 : Nat) (x1 : Int32) (m0 : XM), isa G q0 1 → xJ (xE G d) (xQ xrI G X mX1_readMain) G l X mX1_readMain 70 [(0, .ref (xad G q0)), (1, .int x1)] [] m0 (fX1_readMain_70 (xln G) r25 q0 x1 m0) := by
  intro q0 x1 m0 hq0
  unfold fX1_readMain_70
  refine xj_iload_n F 1 dX1_readMain_70 rfl ?_
  refine xj_bipush F 10 dX1_readMain_71 (by decide) ?_
  refine xj_icmp_lt (tgt := 82) F dX1_readMain_73 (by decide) ?_ ?_
  · refine xj_aload_n F 0 dX1_readMain_82 rfl ?_
    refine xj_getR F hq0 lgX1_12 dX1_readMain_83 (fun u1 hu1 => ?_)
    refine xj_getR F hu1 lgX1_192 dX1_readMain_86 (fun u2 hu2 => ?_)
    refine xj_iload_n F 1 dX1_readMain_89 rfl ?_
    refine xj_aload_n F 0 dX1_readMain_90 rfl ?_
    refine xj_getR F hq0 lgX1_12 dX1_readMain_91 (fun u3 hu3 => ?_)
    refine xj_getR F hu3 lgX1_195 dX1_readMain_94 (fun u4 hu4 => ?_)
    refine xj_get F hu4 lgX1_199 dX1_readMain_97 (fun v5 => ?_)
    refine xj_iast F hu2 dX1_readMain_100 (fun m6 => ?_)
    refine xj_aload_n F 0 dX1_readMain_101 rfl ?_
    refine xj_getR F hq0 lgX1_12 dX1_readMain_102 (fun u7 hu7 => ?_)
    refine xj_iload_n F 1 dX1_readMain_105 rfl ?_
    refine xj_iconst F 1 dX1_readMain_106 (by decide) ?_
    refine xj_iadd F dX1_readMain_107 (fun v8 => ?_)
    refine xj_put F hu7 lpX1_204 dX1_readMain_108 (fun m9 => ?_)
    refine xj_aload_n F 0 dX1_readMain_111 rfl ?_
    refine xj_iconst F (-1) dX1_readMain_112 (by decide) ?_
    refine xj_aload_n F 0 dX1_readMain_113 rfl ?_
    refine xj_sipush F 264 dX1_readMain_114 (by decide) ?_
    refine xj_callVI (b := q0) (As := [.int 264]) (d' := 0) F hq0 lmX1_152 rfl rfl (Nat.le_of_ble_eq_true rfl) (xfit (Nat.le_trans (Nat.le_of_ble_eq_true rfl) hdep)) dX1_readMain_117 (fun hT z hz => wX1_take (xnd F) (Nat.le_refl _) hT (a0 := q0) (a1 := 264) hq0 z hz) (fun v11 m10 => ?_)
    refine xj_if_ne (tgt := 127) F dX1_readMain_120 (by decide) ?_ ?_
    · refine xj_iconst F 0 dX1_readMain_127 (by decide) ?_
      exact jX1_readMain_128 F hdep hr25 q0 x1 q0 (-1) 0 m10 hq0 hq0
    · refine xj_iconst F 1 dX1_readMain_123 (by decide) ?_
      refine xj_goto (tgt := 128) F dX1_readMain_124 (by decide) ?_
      exact jX1_readMain_128 F hdep hr25 q0 x1 q0 (-1) 1 m10 hq0 hq0
  · refine xj_aload_n F 0 dX1_readMain_76 rfl ?_
    refine xj_iconst F 3 dX1_readMain_77 (by decide) ?_
    refine xj_callVI (b := q0) (As := [.int 3]) (d' := 0) F hq0 lmX1_146 rfl rfl (Nat.le_of_ble_eq_true rfl) (xfit (Nat.le_trans (Nat.le_of_ble_eq_true rfl) hdep)) dX1_readMain_78 (fun hT z hz => wX1_refuse (xnd F) (Nat.le_refl _) hT (a0 := q0) (a1 := 3) hq0 z hz) (fun v13 m12 => ?_)
    exact xj_retB F rfl dX1_readMain_81
set_option maxRecDepth 20000 in
set_option maxHeartbeats 4000000 in
theorem jX1_readMain_25 {G : XG} {l : Launch} {d : Nat} {X : XX} (F : xF (xE G d) G X mX1_readMain) (hdep : 42 ≤ d) : ∀ (n : Nat) (q0 : Nat) (x1 : Int32) (m0 : XM), isa G q0 1 → xJ (xE G d) (xQ xrI G X mX1_readMain) G l X mX1_readMain 25 [(0, .ref (xad G q0)), (1, .int x1)] [] m0 (fX1_readMain_25 (xln G) n q0 x1 m0) := by
  intro n
  induction n with
  | zero => intro q0 x1 m0 hq0; exact xj_none
  | succ n hr25 =>
    intro q0 x1 m0 hq0
    unfold fX1_readMain_25
    generalize hrg25 : (fun q0 x1 m0 => fX1_readMain_25 (xln G) n q0 x1 m0) = r25
    have hr25 : ∀ (q0 : Nat) (x1 : Int32) (m0 : XM), isa G q0 1 → xJ (xE G d) (xQ xrI G X mX1_readMain) G l X mX1_readMain 25 [(0, .ref (xad G q0)), (1, .int x1)] [] m0 (r25 q0 x1 m0) := by
      subst hrg25
      exact hr25
    clear hrg25
    refine xj_eq (xv_eq _ _) ?_
    refine xj_aload_n F 0 dX1_readMain_25 rfl ?_
    refine xj_bipush F 125 dX1_readMain_26 (by decide) ?_
    refine xj_callVI (b := q0) (As := [.int 125]) (d' := 0) F hq0 lmX1_152 rfl rfl (Nat.le_of_ble_eq_true rfl) (xfit (Nat.le_trans (Nat.le_of_ble_eq_true rfl) hdep)) dX1_readMain_28 (fun hT z hz => wX1_take (xnd F) (Nat.le_refl _) hT (a0 := q0) (a1 := 125) hq0 z hz) (fun v2 m1 => ?_)
    refine xj_if_ne (tgt := 142) F dX1_readMain_31 (by decide) ?_ ?_
    · refine xj_iconst F 1 dX1_readMain_142 (by decide) ?_
      exact xj_retZ F rfl rfl dX1_readMain_143
    · refine xj_aload_n F 0 dX1_readMain_34 rfl ?_
      refine xj_getR F hq0 lgX1_31 dX1_readMain_35 (fun u3 hu3 => ?_)
      refine xj_aload_n F 0 dX1_readMain_38 rfl ?_
      refine xj_get F hq0 lgX1_52 dX1_readMain_39 (fun v4 => ?_)
      refine xj_iald F hu3 dX1_readMain_42 (fun v5 => ?_)
      refine xj_sipush F 257 dX1_readMain_43 (by decide) ?_
      refine xj_icmp_eq (tgt := 70) F dX1_readMain_46 (by decide) ?_ ?_
      · exact jX1_readMain_70 F hdep hr25 q0 x1 m1 hq0
      · refine xj_aload_n F 0 dX1_readMain_49 rfl ?_
        refine xj_getR F hq0 lgX1_31 dX1_readMain_50 (fun u6 hu6 => ?_)
        refine xj_aload_n F 0 dX1_readMain_53 rfl ?_
        refine xj_get F hq0 lgX1_52 dX1_readMain_54 (fun v7 => ?_)
        refine xj_iald F hu6 dX1_readMain_57 (fun v8 => ?_)
        refine xj_sipush F 264 dX1_readMain_58 (by decide) ?_
        refine xj_icmp_eq (tgt := 70) F dX1_readMain_61 (by decide) ?_ ?_
        · exact jX1_readMain_70 F hdep hr25 q0 x1 m1 hq0
        · refine xj_aload_n F 0 dX1_readMain_64 rfl ?_
          refine xj_iconst F 1 dX1_readMain_65 (by decide) ?_
          refine xj_callVI (b := q0) (As := [.int 1]) (d' := 0) F hq0 lmX1_146 rfl rfl (Nat.le_of_ble_eq_true rfl) (xfit (Nat.le_trans (Nat.le_of_ble_eq_true rfl) hdep)) dX1_readMain_66 (fun hT z hz => wX1_refuse (xnd F) (Nat.le_refl _) hT (a0 := q0) (a1 := 1) hq0 z hz) (fun v10 m9 => ?_)
          exact xj_retB F rfl dX1_readMain_69
set_option maxRecDepth 20000 in
set_option maxHeartbeats 4000000 in
theorem wX1_readMain {G : XG} {l : Launch} {d : Nat} (hn : xN G) (hdep : 42 ≤ d) {m0 : XM} (hT : xT G m0) {a0 : Nat} (ha0 : isa G a0 1) : ∀ z, fX1_readMain (xln G) a0 m0 = some z → xMet G l mX1_readMain d [.ref (xad G a0)] m0 (xrI z) := by
  refine xMet_of (by decide +kernel) hn hT (Nat.le_of_ble_eq_true rfl) (fun X F => ?_)
  refine xj_sub (lv' := [(0, .ref (xad G a0))]) [0] rfl ?_
  unfold fX1_readMain
  refine xj_aload_n F 0 dX1_readMain_0 rfl ?_
  refine xj_sipush F 261 dX1_readMain_1 (by decide) ?_
  refine xj_callVI (b := a0) (As := [.int 261]) (d' := 0) F ha0 lmX1_152 rfl rfl (Nat.le_of_ble_eq_true rfl) (xfit (Nat.le_trans (Nat.le_of_ble_eq_true rfl) hdep)) dX1_readMain_4 (fun hT z hz => wX1_take (xnd F) (Nat.le_refl _) hT (a0 := a0) (a1 := 261) ha0 z hz) (fun v2 m1 => ?_)
  refine xj_if_ne (tgt := 12) F dX1_readMain_7 (by decide) ?_ ?_
  · refine xj_aload_n F 0 dX1_readMain_12 rfl ?_
    refine xj_bipush F 123 dX1_readMain_13 (by decide) ?_
    refine xj_callVI (b := a0) (As := [.int 123]) (d' := 0) F ha0 lmX1_67 rfl rfl (Nat.le_of_ble_eq_true rfl) (xfit (Nat.le_trans (Nat.le_of_ble_eq_true rfl) hdep)) dX1_readMain_15 (fun hT z hz => wX1_mustTake (xnd F) (Nat.le_refl _) hT (a0 := a0) (a1 := 123) ha0 z hz) (fun v4 m3 => ?_)
    refine xj_if_ne (tgt := 23) F dX1_readMain_18 (by decide) ?_ ?_
    · refine xj_iconst F 0 dX1_readMain_23 (by decide) ?_
      refine xj_istore_n (lv' := [(1, .int 0), (0, .ref (xad G a0))]) F dX1_readMain_24 (by decide) rfl ?_
      refine xj_sub (lv' := [(0, .ref (xad G a0)), (1, .int 0)]) [1, 0] rfl ?_
      exact jX1_readMain_25 F hdep XF a0 0 m3 ha0
    · refine xj_iconst F 0 dX1_readMain_21 (by decide) ?_
      exact xj_retZ F rfl rfl dX1_readMain_22
  · refine xj_iconst F 1 dX1_readMain_10 (by decide) ?_
    exact xj_retZ F rfl rfl dX1_readMain_11
set_option maxRecDepth 20000 in
set_option maxHeartbeats 4000000 in
theorem wX1_lookUp {G : XG} {l : Launch} {d : Nat} (hn : xN G) (hdep : 0 ≤ d) {m0 : XM} (hT : xT G m0) {a0 : Nat} {a1 : Int32} (ha0 : isa G a0 1) : ∀ z, fX1_lookUp (xln G) a0 a1 m0 = some z → xMet G l mX1_lookUp d [.ref (xad G a0), .int a1] m0 (xrI z) := by
  refine xMet_of (by decide +kernel) hn hT (Nat.le_of_ble_eq_true rfl) (fun X F => ?_)
  refine xj_sub (lv' := [(0, .ref (xad G a0)), (1, .int a1)]) [0, 1] rfl ?_
  unfold fX1_lookUp
  refine xj_aload_n F 0 dX1_lookUp_0 rfl ?_
  refine xj_getR F ha0 lgX1_18 dX1_lookUp_1 (fun u1 hu1 => ?_)
  refine xj_iload_n F 1 dX1_lookUp_4 rfl ?_
  refine xj_bipush F 26 dX1_lookUp_5 (by decide) ?_
  refine xj_idiv F dX1_lookUp_7 (fun v2 => ?_)
  refine xj_iald F hu1 dX1_lookUp_8 (fun v3 => ?_)
  refine xj_istore_n (lv' := [(2, .int v3), (0, .ref (xad G a0)), (1, .int a1)]) F dX1_lookUp_9 (by decide) rfl ?_
  refine xj_iload_n F 0 dX1_lookUp_10 rfl ?_
  refine xj_iconst F (-1) dX1_lookUp_11 (by decide) ?_
  refine xj_icmp_ne (tgt := 19) F dX1_lookUp_12 (by decide) ?_ ?_
  · refine xj_aload_n F 1 dX1_lookUp_19 rfl ?_
    refine xj_getR F ha0 lgX1_12 dX1_lookUp_20 (fun u4 hu4 => ?_)
    refine xj_getR F hu4 lgX1_182 dX1_lookUp_23 (fun u5 hu5 => ?_)
    refine xj_iload_n F 0 dX1_lookUp_26 rfl ?_
    refine xj_bipush F 26 dX1_lookUp_27 (by decide) ?_
    refine xj_imul F dX1_lookUp_29 (fun v6 => ?_)
    refine xj_iload_n F 2 dX1_lookUp_30 rfl ?_
    refine xj_bipush F 26 dX1_lookUp_31 (by decide) ?_
    refine xj_irem F dX1_lookUp_33 (fun v7 => ?_)
    refine xj_iadd F dX1_lookUp_34 (fun v8 => ?_)
    refine xj_iald F hu5 dX1_lookUp_35 (fun v9 => ?_)
    exact xj_ret F rfl dX1_lookUp_36
  · refine xj_iconst F (-1) dX1_lookUp_15 (by decide) ?_
    refine xj_goto (tgt := 36) F dX1_lookUp_16 (by decide) ?_
    exact xj_ret F rfl dX1_lookUp_36
set_option maxRecDepth 20000 in
set_option maxHeartbeats 4000000 in
theorem wX1_refuseName {G : XG} {l : Launch} {d : Nat} (hn : xN G) (hdep : 0 ≤ d) {m0 : XM} (hT : xT G m0) {a0 : Nat} {a1 : Int32} (ha0 : isa G a0 1) : ∀ z, fX1_refuseName (xln G) a0 a1 m0 = some z → xMet G l mX1_refuseName d [.ref (xad G a0), .int a1] m0 (xrI z) := by
  refine xMet_of (by decide +kernel) hn hT (Nat.le_of_ble_eq_true rfl) (fun X F => ?_)
  refine xj_sub (lv' := [(0, .ref (xad G a0)), (1, .int a1)]) [0, 1] rfl ?_
  unfold fX1_refuseName
  refine xj_aload_n F 0 dX1_refuseName_0 rfl ?_
  refine xj_iconst F 5 dX1_refuseName_1 (by decide) ?_
  refine xj_put F ha0 lpX1_56 dX1_refuseName_2 (fun m1 => ?_)
  refine xj_aload_n F 0 dX1_refuseName_5 rfl ?_
  refine xj_iload_n F 1 dX1_refuseName_6 rfl ?_
  refine xj_put F ha0 lpX1_73 dX1_refuseName_7 (fun m2 => ?_)
  refine xj_iconst F 0 dX1_refuseName_10 (by decide) ?_
  exact xj_retZ F rfl rfl dX1_refuseName_11
set_option maxRecDepth 20000 in
set_option maxHeartbeats 4000000 in
theorem jX1_resolveTarget_35 {G : XG} {l : Launch} {d : Nat} {X : XX} (F : xF (xE G d) G X mX1_resolveTarget) (hdep : 1 ≤ d) : ∀ (q0 : Nat) (x1 : Int32) (m0 : XM), isa G q0 1 → xJ (xE G d) (xQ xrI G X mX1_resolveTarget) G l X mX1_resolveTarget 35 [(0, .ref (xad G q0)), (1, .int x1)] [] m0 (fX1_resolveTarget_35 (xln G) q0 x1 m0) := by
  intro q0 x1 m0 hq0
  unfold fX1_resolveTarget_35
  refine xj_aload_n F 0 dX1_resolveTarget_35 rfl ?_
  refine xj_aload_n F 0 dX1_resolveTarget_36 rfl ?_
  refine xj_getR F hq0 lgX1_25 dX1_resolveTarget_37 (fun u1 hu1 => ?_)
  refine xj_iload_n F 1 dX1_resolveTarget_40 rfl ?_
  refine xj_iald F hu1 dX1_resolveTarget_41 (fun v2 => ?_)
  refine xj_callVI (b := q0) (As := [.int v2]) (d' := 0) F hq0 lmX1_259 rfl rfl (Nat.le_of_ble_eq_true rfl) (xfit (Nat.le_trans (Nat.le_of_ble_eq_true rfl) hdep)) dX1_resolveTarget_42 (fun hT z hz => wX1_refuseName (xnd F) (Nat.le_refl _) hT (a0 := q0) (a1 := v2) hq0 z hz) (fun v4 m3 => ?_)
  exact xj_retB F rfl dX1_resolveTarget_45
set_option maxRecDepth 20000 in
set_option maxHeartbeats 4000000 in
theorem wX1_resolveTarget {G : XG} {l : Launch} {d : Nat} (hn : xN G) (hdep : 1 ≤ d) {m0 : XM} (hT : xT G m0) {a0 : Nat} {a1 : Int32} (ha0 : isa G a0 1) : ∀ z, fX1_resolveTarget (xln G) a0 a1 m0 = some z → xMet G l mX1_resolveTarget d [.ref (xad G a0), .int a1] m0 (xrI z) := by
  refine xMet_of (by decide +kernel) hn hT (Nat.le_of_ble_eq_true rfl) (fun X F => ?_)
  refine xj_sub (lv' := [(0, .ref (xad G a0)), (1, .int a1)]) [0, 1] rfl ?_
  unfold fX1_resolveTarget
  refine xj_aload_n F 0 dX1_resolveTarget_0 rfl ?_
  refine xj_aload_n F 0 dX1_resolveTarget_1 rfl ?_
  refine xj_getR F ha0 lgX1_12 dX1_resolveTarget_2 (fun u1 hu1 => ?_)
  refine xj_getR F hu1 lgX1_195 dX1_resolveTarget_5 (fun u2 hu2 => ?_)
  refine xj_getR F hu2 lgX1_210 dX1_resolveTarget_8 (fun u3 hu3 => ?_)
  refine xj_iload_n F 1 dX1_resolveTarget_11 rfl ?_
  refine xj_iald F hu3 dX1_resolveTarget_12 (fun v4 => ?_)
  refine xj_callVI (b := a0) (As := [.int v4]) (d' := 0) F ha0 lmX1_255 rfl rfl (Nat.le_of_ble_eq_true rfl) (xfit (Nat.le_trans (Nat.le_of_ble_eq_true rfl) hdep)) dX1_resolveTarget_13 (fun hT z hz => wX1_lookUp (xnd F) (Nat.le_refl _) hT (a0 := a0) (a1 := v4) ha0 z hz) (fun v6 m5 => ?_)
  refine xj_istore_n (lv' := [(2, .int v6), (0, .ref (xad G a0)), (1, .int a1)]) F dX1_resolveTarget_16 (by decide) rfl ?_
  refine xj_iload_n F 0 dX1_resolveTarget_17 rfl ?_
  refine xj_iconst F (-1) dX1_resolveTarget_18 (by decide) ?_
  refine xj_icmp_eq (tgt := 35) F dX1_resolveTarget_19 (by decide) ?_ ?_
  · refine xj_sub (lv' := [(0, .ref (xad G a0)), (1, .int a1)]) [1, 2] rfl ?_
    exact jX1_resolveTarget_35 F hdep a0 a1 m5 ha0
  · refine xj_aload_n F 1 dX1_resolveTarget_22 rfl ?_
    refine xj_getR F ha0 lgX1_12 dX1_resolveTarget_23 (fun u7 hu7 => ?_)
    refine xj_getR F hu7 lgX1_258 dX1_resolveTarget_26 (fun u8 hu8 => ?_)
    refine xj_iload_n F 0 dX1_resolveTarget_29 rfl ?_
    refine xj_iald F hu8 dX1_resolveTarget_30 (fun v9 => ?_)
    refine xj_iconst F 1 dX1_resolveTarget_31 (by decide) ?_
    refine xj_icmp_eq (tgt := 46) F dX1_resolveTarget_32 (by decide) ?_ ?_
    · refine xj_aload_n F 1 dX1_resolveTarget_46 rfl ?_
      refine xj_getR F ha0 lgX1_12 dX1_resolveTarget_47 (fun u10 hu10 => ?_)
      refine xj_getR F hu10 lgX1_195 dX1_resolveTarget_50 (fun u11 hu11 => ?_)
      refine xj_getR F hu11 lgX1_210 dX1_resolveTarget_53 (fun u12 hu12 => ?_)
      refine xj_iload_n F 2 dX1_resolveTarget_56 rfl ?_
      refine xj_iload_n F 0 dX1_resolveTarget_57 rfl ?_
      refine xj_iast F hu12 dX1_resolveTarget_58 (fun m13 => ?_)
      refine xj_iconst F 1 dX1_resolveTarget_59 (by decide) ?_
      exact xj_retZ F rfl rfl dX1_resolveTarget_60
    · refine xj_sub (lv' := [(0, .ref (xad G a0)), (1, .int a1)]) [1, 2] rfl ?_
      exact jX1_resolveTarget_35 F hdep a0 a1 m5 ha0
set_option maxRecDepth 20000 in
set_option maxHeartbeats 4000000 in
theorem jX1_resolveCode_60 {G : XG} {l : Launch} {d : Nat} {X : XX} (F : xF (xE G d) G X mX1_resolveCode) (hdep : 1 ≤ d) : ∀ (q0 : Nat) (x1 : Int32) (m0 : XM), isa G q0 1 → xJ (xE G d) (xQ xrI G X mX1_resolveCode) G l X mX1_resolveCode 60 [(0, .ref (xad G q0)), (1, .int x1)] [] m0 (fX1_resolveCode_60 (xln G) q0 x1 m0) := by
  intro q0 x1 m0 hq0
  unfold fX1_resolveCode_60
  refine xj_aload_n F 0 dX1_resolveCode_60 rfl ?_
  refine xj_aload_n F 0 dX1_resolveCode_61 rfl ?_
  refine xj_getR F hq0 lgX1_22 dX1_resolveCode_62 (fun u1 hu1 => ?_)
  refine xj_iload_n F 1 dX1_resolveCode_65 rfl ?_
  refine xj_iald F hu1 dX1_resolveCode_66 (fun v2 => ?_)
  refine xj_callVI (b := q0) (As := [.int v2]) (d' := 0) F hq0 lmX1_259 rfl rfl (Nat.le_of_ble_eq_true rfl) (xfit (Nat.le_trans (Nat.le_of_ble_eq_true rfl) hdep)) dX1_resolveCode_67 (fun hT z hz => wX1_refuseName (xnd F) (Nat.le_refl _) hT (a0 := q0) (a1 := v2) hq0 z hz) (fun v4 m3 => ?_)
  exact xj_retB F rfl dX1_resolveCode_70
set_option maxRecDepth 20000 in
set_option maxHeartbeats 4000000 in
theorem jX1_resolveCode_57 {G : XG} {l : Launch} {d : Nat} {X : XX} (F : xF (xE G d) G X mX1_resolveCode) (hdep : 1 ≤ d) : ∀ (q0 : Nat) (x1 : Int32) (q2 : Nat) (x3 : Int32) (s0 : Int32) (s1 : Int32) (m0 : XM), isa G q0 1 → isa G q2 5 → xJ (xE G d) (xQ xrI G X mX1_resolveCode) G l X mX1_resolveCode 57 [(0, .ref (xad G q0)), (1, .int x1), (2, .ref (xad G q2)), (3, .int x3)] [.int s1, .int s0] m0 (fX1_resolveCode_57 (xln G) q0 x1 q2 x3 s0 s1 m0) := by
  intro q0 x1 q2 x3 s0 s1 m0 hq0 hq2
  unfold fX1_resolveCode_57
  refine xj_icmp_eq (tgt := 71) F dX1_resolveCode_57 (by decide) ?_ ?_
  · refine xj_aload_n F 0 dX1_resolveCode_71 rfl ?_
    refine xj_getR F hq0 lgX1_12 dX1_resolveCode_72 (fun u1 hu1 => ?_)
    refine xj_getR F hu1 lgX1_258 dX1_resolveCode_75 (fun u2 hu2 => ?_)
    refine xj_iload_n F 3 dX1_resolveCode_78 rfl ?_
    refine xj_iald F hu2 dX1_resolveCode_79 (fun v3 => ?_)
    refine xj_if_ne (tgt := 108) F dX1_resolveCode_80 (by decide) ?_ ?_
    · refine xj_aload_n F 2 dX1_resolveCode_108 rfl ?_
      refine xj_getR F hq2 lgX1_246 dX1_resolveCode_109 (fun u4 hu4 => ?_)
      refine xj_iload_n F 1 dX1_resolveCode_112 rfl ?_
      refine xj_iload_n F 3 dX1_resolveCode_113 rfl ?_
      refine xj_iast F hu4 dX1_resolveCode_114 (fun m5 => ?_)
      refine xj_iconst F 1 dX1_resolveCode_115 (by decide) ?_
      exact xj_retZ F rfl rfl dX1_resolveCode_116
    · refine xj_aload_n F 2 dX1_resolveCode_83 rfl ?_
      refine xj_getR F hq2 lgX1_243 dX1_resolveCode_84 (fun u6 hu6 => ?_)
      refine xj_iload_n F 1 dX1_resolveCode_87 rfl ?_
      refine xj_iconst F 0 dX1_resolveCode_88 (by decide) ?_
      refine xj_iast F hu6 dX1_resolveCode_89 (fun m7 => ?_)
      refine xj_aload_n F 2 dX1_resolveCode_90 rfl ?_
      refine xj_getR F hq2 lgX1_246 dX1_resolveCode_91 (fun u8 hu8 => ?_)
      refine xj_iload_n F 1 dX1_resolveCode_94 rfl ?_
      refine xj_aload_n F 0 dX1_resolveCode_95 rfl ?_
      refine xj_getR F hq0 lgX1_12 dX1_resolveCode_96 (fun u9 hu9 => ?_)
      refine xj_getR F hu9 lgX1_191 dX1_resolveCode_99 (fun u10 hu10 => ?_)
      refine xj_iload_n F 3 dX1_resolveCode_102 rfl ?_
      refine xj_iald F hu10 dX1_resolveCode_103 (fun v11 => ?_)
      refine xj_iast F hu8 dX1_resolveCode_104 (fun m12 => ?_)
      refine xj_goto (tgt := 115) F dX1_resolveCode_105 (by decide) ?_
      refine xj_iconst F 1 dX1_resolveCode_115 (by decide) ?_
      exact xj_retZ F rfl rfl dX1_resolveCode_116
  · refine xj_sub (lv' := [(0, .ref (xad G q0)), (1, .int x1)]) [0, 1] rfl ?_
    exact jX1_resolveCode_60 F hdep q0 x1 m0 hq0
set_option maxRecDepth 20000 in
set_option maxHeartbeats 4000000 in
theorem jX1_resolveCode_42 {G : XG} {l : Launch} {d : Nat} {X : XX} (F : xF (xE G d) G X mX1_resolveCode) (hdep : 1 ≤ d) : ∀ (q0 : Nat) (x1 : Int32) (q2 : Nat) (x3 : Int32) (s0 : Int32) (m0 : XM), isa G q0 1 → isa G q2 5 → xJ (xE G d) (xQ xrI G X mX1_resolveCode) G l X mX1_resolveCode 42 [(0, .ref (xad G q0)), (1, .int x1), (2, .ref (xad G q2)), (3, .int x3)] [.int s0] m0 (fX1_resolveCode_42 (xln G) q0 x1 q2 x3 s0 m0) := by
  intro q0 x1 q2 x3 s0 m0 hq0 hq2
  unfold fX1_resolveCode_42
  refine xj_aload_n F 2 dX1_resolveCode_42 rfl ?_
  refine xj_getR F hq2 lgX1_243 dX1_resolveCode_43 (fun u1 hu1 => ?_)
  refine xj_iload_n F 1 dX1_resolveCode_46 rfl ?_
  refine xj_iald F hu1 dX1_resolveCode_47 (fun v2 => ?_)
  refine xj_iconst F 2 dX1_resolveCode_48 (by decide) ?_
  refine xj_icmp_ne (tgt := 56) F dX1_resolveCode_49 (by decide) ?_ ?_
  · refine xj_iconst F 0 dX1_resolveCode_56 (by decide) ?_
    exact jX1_resolveCode_57 F hdep q0 x1 q2 x3 s0 0 m0 hq0 hq2
  · refine xj_iconst F 1 dX1_resolveCode_52 (by decide) ?_
    refine xj_goto (tgt := 57) F dX1_resolveCode_53 (by decide) ?_
    exact jX1_resolveCode_57 F hdep q0 x1 q2 x3 s0 1 m0 hq0 hq2
set_option maxRecDepth 20000 in
set_option maxHeartbeats 4000000 in
theorem wX1_resolveCode {G : XG} {l : Launch} {d : Nat} (hn : xN G) (hdep : 1 ≤ d) {m0 : XM} (hT : xT G m0) {a0 : Nat} {a1 : Int32} (ha0 : isa G a0 1) : ∀ z, fX1_resolveCode (xln G) a0 a1 m0 = some z → xMet G l mX1_resolveCode d [.ref (xad G a0), .int a1] m0 (xrI z) := by
  refine xMet_of (by decide +kernel) hn hT (Nat.le_of_ble_eq_true rfl) (fun X F => ?_)
  refine xj_sub (lv' := [(0, .ref (xad G a0)), (1, .int a1)]) [0, 1] rfl ?_
  unfold fX1_resolveCode
  refine xj_aload_n F 0 dX1_resolveCode_0 rfl ?_
  refine xj_getR F ha0 lgX1_12 dX1_resolveCode_1 (fun u1 hu1 => ?_)
  refine xj_getR F hu1 lgX1_195 dX1_resolveCode_4 (fun u2 hu2 => ?_)
  refine xj_astore_n (lv' := [(2, .ref (xad G u2)), (0, .ref (xad G a0)), (1, .int a1)]) F dX1_resolveCode_7 (by decide) rfl ?_
  refine xj_aload_n F 1 dX1_resolveCode_8 rfl ?_
  refine xj_aload_n F 0 dX1_resolveCode_9 rfl ?_
  refine xj_getR F hu2 lgX1_246 dX1_resolveCode_10 (fun u3 hu3 => ?_)
  refine xj_iload_n F 2 dX1_resolveCode_13 rfl ?_
  refine xj_iald F hu3 dX1_resolveCode_14 (fun v4 => ?_)
  refine xj_callVI (b := a0) (As := [.int v4]) (d' := 0) F ha0 lmX1_255 rfl rfl (Nat.le_of_ble_eq_true rfl) (xfit (Nat.le_trans (Nat.le_of_ble_eq_true rfl) hdep)) dX1_resolveCode_15 (fun hT z hz => wX1_lookUp (xnd F) (Nat.le_refl _) hT (a0 := a0) (a1 := v4) ha0 z hz) (fun v6 m5 => ?_)
  refine xj_istore_n (lv' := [(3, .int v6), (2, .ref (xad G u2)), (0, .ref (xad G a0)), (1, .int a1)]) F dX1_resolveCode_18 (by decide) rfl ?_
  refine xj_iload_n F 0 dX1_resolveCode_19 rfl ?_
  refine xj_iconst F (-1) dX1_resolveCode_20 (by decide) ?_
  refine xj_icmp_eq (tgt := 60) F dX1_resolveCode_21 (by decide) ?_ ?_
  · refine xj_sub (lv' := [(0, .ref (xad G a0)), (1, .int a1)]) [2, 3] rfl ?_
    exact jX1_resolveCode_60 F hdep a0 a1 m5 ha0
  · refine xj_aload_n F 2 dX1_resolveCode_24 rfl ?_
    refine xj_getR F ha0 lgX1_12 dX1_resolveCode_25 (fun u7 hu7 => ?_)
    refine xj_getR F hu7 lgX1_258 dX1_resolveCode_28 (fun u8 hu8 => ?_)
    refine xj_iload_n F 0 dX1_resolveCode_31 rfl ?_
    refine xj_iald F hu8 dX1_resolveCode_32 (fun v9 => ?_)
    refine xj_iconst F 4 dX1_resolveCode_33 (by decide) ?_
    refine xj_icmp_ne (tgt := 41) F dX1_resolveCode_34 (by decide) ?_ ?_
    · refine xj_iconst F 0 dX1_resolveCode_41 (by decide) ?_
      refine xj_sub (lv' := [(0, .ref (xad G a0)), (1, .int a1), (2, .ref (xad G u2)), (3, .int v6)]) [2, 3, 1, 0] rfl ?_
      exact jX1_resolveCode_42 F hdep a0 a1 u2 v6 0 m5 ha0 hu2
    · refine xj_iconst F 1 dX1_resolveCode_37 (by decide) ?_
      refine xj_goto (tgt := 42) F dX1_resolveCode_38 (by decide) ?_
      refine xj_sub (lv' := [(0, .ref (xad G a0)), (1, .int a1), (2, .ref (xad G u2)), (3, .int v6)]) [2, 3, 1, 0] rfl ?_
      exact jX1_resolveCode_42 F hdep a0 a1 u2 v6 1 m5 ha0 hu2
set_option maxRecDepth 20000 in
set_option maxHeartbeats 4000000 in
theorem jX1_resolveAll_85 {G : XG} {l : Launch} {d : Nat} {X : XX} (F : xF (xE G d) G X mX1_resolveAll) (hdep : 2 ≤ d) {r10 : Nat → Nat → Int32 → XM → Option (Int32 × XM)} (hr10 : ∀ (q0 : Nat) (q1 : Nat) (x2 : Int32) (m0 : XM), isa G q0 1 → isa G q1 5 → xJ (xE G d) (xQ xrI G X mX1_resolveAll) G l X mX1_resolveAll 10 [(0, .ref (xad G q0)), (1, .ref (xad G q1)), (2, .int x2)] [] m0 (r10 q0 q1 x2 m0)) {r45 : Nat → Nat → Int32 → Int32 → XM → Option (Int32 × XM)} (hr45 : ∀ (q0 : Nat) (q1 : Nat) (x2 : Int32) (x3 : Int32) (m0 : XM), isa G q0 1 → isa G q1 5 → xJ (xE G d) (xQ xrI G X mX1_resolveAll) G l X mX1_resolveAll 45 [(0, .ref (xad G q0)), (1, .ref (xad G q1)), (2, .int x2), (3, .int x3)] [] m0 (r45 q0 q1 x2 x3 m0)) : ∀ (q0 : Nat) (q1 : Nat) (x2 : Int32) (x3 : Int32) (m0 : XM), isa G q0 1 → isa G q1 5 → xJ (xE G d) (xQ xrI G X mX1_resolveAll) G l X mX1_resolveAll 85 [(0, .ref (xad G q0)), (1, .ref (xad G q1)), (2, .int x2), (3, .int x3)] [] m0 (fX1_resolveAll_85 (xln G) r10 r45 q0 q1 x2 x3 m0) := by
  intro q0 q1 x2 x3 m0 hq0 hq1
  unfold fX1_resolveAll_85
  refine xj_iinc F 3 1 (fun v1 => [(3, .int v1), (0, .ref (xad G q0)), (1, .ref (xad G q1)), (2, .int x2)]) dX1_resolveAll_85 rfl (by decide) (by decide) (fun _ => rfl) (fun v1 => ?_)
  refine xj_goto (tgt := 45) F dX1_resolveAll_88 (by decide) ?_
  refine xj_sub (lv' := [(0, .ref (xad G q0)), (1, .ref (xad G q1)), (2, .int x2), (3, .int v1)]) [1, 2, 3, 0] rfl ?_
  exact hr45 q0 q1 x2 v1 m0 hq0 hq1
set_option maxRecDepth 20000 in
set_option maxHeartbeats 4000000 in
theorem jX1_resolveAll_75 {G : XG} {l : Launch} {d : Nat} {X : XX} (F : xF (xE G d) G X mX1_resolveAll) (hdep : 2 ≤ d) {r10 : Nat → Nat → Int32 → XM → Option (Int32 × XM)} (hr10 : ∀ (q0 : Nat) (q1 : Nat) (x2 : Int32) (m0 : XM), isa G q0 1 → isa G q1 5 → xJ (xE G d) (xQ xrI G X mX1_resolveAll) G l X mX1_resolveAll 10 [(0, .ref (xad G q0)), (1, .ref (xad G q1)), (2, .int x2)] [] m0 (r10 q0 q1 x2 m0)) {r45 : Nat → Nat → Int32 → Int32 → XM → Option (Int32 × XM)} (hr45 : ∀ (q0 : Nat) (q1 : Nat) (x2 : Int32) (x3 : Int32) (m0 : XM), isa G q0 1 → isa G q1 5 → xJ (xE G d) (xQ xrI G X mX1_resolveAll) G l X mX1_resolveAll 45 [(0, .ref (xad G q0)), (1, .ref (xad G q1)), (2, .int x2), (3, .int x3)] [] m0 (r45 q0 q1 x2 x3 m0)) : ∀ (q0 : Nat) (q1 : Nat) (x2 : Int32) (x3 : Int32) (m0 : XM), isa G q0 1 → isa G q1 5 → xJ (xE G d) (xQ xrI G X mX1_resolveAll) G l X mX1_resolveAll 75 [(0, .ref (xad G q0)), (1, .ref (xad G q1)), (2, .int x2), (3, .int x3)] [] m0 (fX1_resolveAll_75 (xln G) r10 r45 q0 q1 x2 x3 m0) := by
  intro q0 q1 x2 x3 m0 hq0 hq1
  unfold fX1_resolveAll_75
  refine xj_aload_n F 0 dX1_resolveAll_75 rfl ?_
  refine xj_iload_n F 3 dX1_resolveAll_76 rfl ?_
  refine xj_callVI (b := q0) (As := [.int x3]) (d' := 1) F hq0 lmX1_252 rfl rfl (Nat.le_of_ble_eq_true rfl) (xfit (Nat.le_trans (Nat.le_of_ble_eq_true rfl) hdep)) dX1_resolveAll_77 (fun hT z hz => wX1_resolveCode (xnd F) (Nat.le_refl _) hT (a0 := q0) (a1 := x3) hq0 z hz) (fun v2 m1 => ?_)
  refine xj_if_ne (tgt := 85) F dX1_resolveAll_80 (by decide) ?_ ?_
  · exact jX1_resolveAll_85 F hdep hr10 hr45 q0 q1 x2 x3 m1 hq0 hq1
  · refine xj_iconst F 0 dX1_resolveAll_83 (by decide) ?_
    exact xj_retZ F rfl rfl dX1_resolveAll_84
set_option maxRecDepth 20000 in
set_option maxHeartbeats 4000000 in
theorem jX1_resolveAll_45 {G : XG} {l : Launch} {d : Nat} {X : XX} (F : xF (xE G d) G X mX1_resolveAll) (hdep : 2 ≤ d) {r10 : Nat → Nat → Int32 → XM → Option (Int32 × XM)} (hr10 : ∀ (q0 : Nat) (q1 : Nat) (x2 : Int32) (m0 : XM), isa G q0 1 → isa G q1 5 → xJ (xE G d) (xQ xrI G X mX1_resolveAll) G l X mX1_resolveAll 10 [(0, .ref (xad G q0)), (1, .ref (xad G q1)), (2, .int x2)] [] m0 (r10 q0 q1 x2 m0)) : ∀ (n : Nat) (q0 : Nat) (q1 : Nat) (x2 : Int32) (x3 : Int32) (m0 : XM), isa G q0 1 → isa G q1 5 → xJ (xE G d) (xQ xrI G X mX1_resolveAll) G l X mX1_resolveAll 45 [(0, .ref (xad G q0)), (1, .ref (xad G q1)), (2, .int x2), (3, .int x3)] [] m0 (fX1_resolveAll_45 (xln G) r10 n q0 q1 x2 x3 m0) := by
  intro n
  induction n with
  | zero => intro q0 q1 x2 x3 m0 hq0 hq1; exact xj_none
  | succ n hr45 =>
    intro q0 q1 x2 x3 m0 hq0 hq1
    unfold fX1_resolveAll_45
    generalize hrg45 : (fun q0 q1 x2 x3 m0 => fX1_resolveAll_45 (xln G) r10 n q0 q1 x2 x3 m0) = r45
    have hr45 : ∀ (q0 : Nat) (q1 : Nat) (x2 : Int32) (x3 : Int32) (m0 : XM), isa G q0 1 → isa G q1 5 → xJ (xE G d) (xQ xrI G X mX1_resolveAll) G l X mX1_resolveAll 45 [(0, .ref (xad G q0)), (1, .ref (xad G q1)), (2, .int x2), (3, .int x3)] [] m0 (r45 q0 q1 x2 x3 m0) := by
      subst hrg45
      exact hr45
    clear hrg45
    refine xj_eq (xv_eq _ _) ?_
    refine xj_iload_n F 3 dX1_resolveAll_45 rfl ?_
    refine xj_aload_n F 1 dX1_resolveAll_46 rfl ?_
    refine xj_getR F hq1 lgX1_228 dX1_resolveAll_47 (fun u1 hu1 => ?_)
    refine xj_iload_n F 2 dX1_resolveAll_50 rfl ?_
    refine xj_iald F hu1 dX1_resolveAll_51 (fun v2 => ?_)
    refine xj_icmp_ge (tgt := 91) F dX1_resolveAll_52 (by decide) ?_ ?_
    · refine xj_iinc F 2 1 (fun v3 => [(2, .int v3), (0, .ref (xad G q0)), (1, .ref (xad G q1)), (3, .int x3)]) dX1_resolveAll_91 rfl (by decide) (by decide) (fun _ => rfl) (fun v3 => ?_)
      refine xj_goto (tgt := 10) F dX1_resolveAll_94 (by decide) ?_
      refine xj_sub (lv' := [(0, .ref (xad G q0)), (1, .ref (xad G q1)), (2, .int v3)]) [1, 2, 0] rfl ?_
      exact hr10 q0 q1 v3 m0 hq0 hq1
    · refine xj_aload_n F 1 dX1_resolveAll_55 rfl ?_
      refine xj_getR F hq1 lgX1_243 dX1_resolveAll_56 (fun u4 hu4 => ?_)
      refine xj_iload_n F 3 dX1_resolveAll_59 rfl ?_
      refine xj_iald F hu4 dX1_resolveAll_60 (fun v5 => ?_)
      refine xj_iconst F 1 dX1_resolveAll_61 (by decide) ?_
      refine xj_icmp_eq (tgt := 75) F dX1_resolveAll_62 (by decide) ?_ ?_
      · exact jX1_resolveAll_75 F hdep hr10 hr45 q0 q1 x2 x3 m0 hq0 hq1
      · refine xj_aload_n F 1 dX1_resolveAll_65 rfl ?_
        refine xj_getR F hq1 lgX1_243 dX1_resolveAll_66 (fun u6 hu6 => ?_)
        refine xj_iload_n F 3 dX1_resolveAll_69 rfl ?_
        refine xj_iald F hu6 dX1_resolveAll_70 (fun v7 => ?_)
        refine xj_iconst F 2 dX1_resolveAll_71 (by decide) ?_
        refine xj_icmp_ne (tgt := 85) F dX1_resolveAll_72 (by decide) ?_ ?_
        · exact jX1_resolveAll_85 F hdep hr10 hr45 q0 q1 x2 x3 m0 hq0 hq1
        · exact jX1_resolveAll_75 F hdep hr10 hr45 q0 q1 x2 x3 m0 hq0 hq1
set_option maxRecDepth 20000 in
set_option maxHeartbeats 4000000 in
theorem jX1_resolveAll_38 {G : XG} {l : Launch} {d : Nat} {X : XX} (F : xF (xE G d) G X mX1_resolveAll) (hdep : 2 ≤ d) {r10 : Nat → Nat → Int32 → XM → Option (Int32 × XM)} (hr10 : ∀ (q0 : Nat) (q1 : Nat) (x2 : Int32) (m0 : XM), isa G q0 1 → isa G q1 5 → xJ (xE G d) (xQ xrI G X mX1_resolveAll) G l X mX1_resolveAll 10 [(0, .ref (xad G q0)), (1, .ref (xad G q1)), (2, .int x2)] [] m0 (r10 q0 q1 x2 m0)) : ∀ (q0 : Nat) (q1 : Nat) (x2 : Int32) (m0 : XM), isa G q0 1 → isa G q1 5 → xJ (xE G d) (xQ xrI G X mX1_resolveAll) G l X mX1_resolveAll 38 [(0, .ref (xad G q0)), (1, .ref (xad G q1)), (2, .int x2)] [] m0 (fX1_resolveAll_38 (xln G) r10 q0 q1 x2 m0) := by
  intro q0 q1 x2 m0 hq0 hq1
  unfold fX1_resolveAll_38
  refine xj_aload_n F 1 dX1_resolveAll_38 rfl ?_
  refine xj_getR F hq1 lgX1_216 dX1_resolveAll_39 (fun u1 hu1 => ?_)
  refine xj_iload_n F 2 dX1_resolveAll_42 rfl ?_
  refine xj_iald F hu1 dX1_resolveAll_43 (fun v2 => ?_)
  refine xj_istore_n (lv' := [(3, .int v2), (0, .ref (xad G q0)), (1, .ref (xad G q1)), (2, .int x2)]) F dX1_resolveAll_44 (by decide) rfl ?_
  refine xj_sub (lv' := [(0, .ref (xad G q0)), (1, .ref (xad G q1)), (2, .int x2), (3, .int v2)]) [1, 2, 3, 0] rfl ?_
  exact jX1_resolveAll_45 F hdep hr10 XF q0 q1 x2 v2 m0 hq0 hq1
set_option maxRecDepth 20000 in
set_option maxHeartbeats 4000000 in
theorem jX1_resolveAll_10 {G : XG} {l : Launch} {d : Nat} {X : XX} (F : xF (xE G d) G X mX1_resolveAll) (hdep : 2 ≤ d) : ∀ (n : Nat) (q0 : Nat) (q1 : Nat) (x2 : Int32) (m0 : XM), isa G q0 1 → isa G q1 5 → xJ (xE G d) (xQ xrI G X mX1_resolveAll) G l X mX1_resolveAll 10 [(0, .ref (xad G q0)), (1, .ref (xad G q1)), (2, .int x2)] [] m0 (fX1_resolveAll_10 (xln G) n q0 q1 x2 m0) := by
  intro n
  induction n with
  | zero => intro q0 q1 x2 m0 hq0 hq1; exact xj_none
  | succ n hr10 =>
    intro q0 q1 x2 m0 hq0 hq1
    unfold fX1_resolveAll_10
    generalize hrg10 : (fun q0 q1 x2 m0 => fX1_resolveAll_10 (xln G) n q0 q1 x2 m0) = r10
    have hr10 : ∀ (q0 : Nat) (q1 : Nat) (x2 : Int32) (m0 : XM), isa G q0 1 → isa G q1 5 → xJ (xE G d) (xQ xrI G X mX1_resolveAll) G l X mX1_resolveAll 10 [(0, .ref (xad G q0)), (1, .ref (xad G q1)), (2, .int x2)] [] m0 (r10 q0 q1 x2 m0) := by
      subst hrg10
      exact hr10
    clear hrg10
    refine xj_eq (xv_eq _ _) ?_
    refine xj_iload_n F 2 dX1_resolveAll_10 rfl ?_
    refine xj_aload_n F 1 dX1_resolveAll_11 rfl ?_
    refine xj_get F hq1 lgX1_199 dX1_resolveAll_12 (fun v1 => ?_)
    refine xj_icmp_ge (tgt := 97) F dX1_resolveAll_15 (by decide) ?_ ?_
    · refine xj_iconst F 1 dX1_resolveAll_97 (by decide) ?_
      exact xj_retZ F rfl rfl dX1_resolveAll_98
    · refine xj_aload_n F 1 dX1_resolveAll_18 rfl ?_
      refine xj_getR F hq1 lgX1_210 dX1_resolveAll_19 (fun u2 hu2 => ?_)
      refine xj_iload_n F 2 dX1_resolveAll_22 rfl ?_
      refine xj_iald F hu2 dX1_resolveAll_23 (fun v3 => ?_)
      refine xj_iconst F (-1) dX1_resolveAll_24 (by decide) ?_
      refine xj_icmp_eq (tgt := 38) F dX1_resolveAll_25 (by decide) ?_ ?_
      · exact jX1_resolveAll_38 F hdep hr10 q0 q1 x2 m0 hq0 hq1
      · refine xj_aload_n F 0 dX1_resolveAll_28 rfl ?_
        refine xj_iload_n F 2 dX1_resolveAll_29 rfl ?_
        refine xj_callVI (b := q0) (As := [.int x2]) (d' := 1) F hq0 lmX1_249 rfl rfl (Nat.le_of_ble_eq_true rfl) (xfit (Nat.le_trans (Nat.le_of_ble_eq_true rfl) hdep)) dX1_resolveAll_30 (fun hT z hz => wX1_resolveTarget (xnd F) (Nat.le_refl _) hT (a0 := q0) (a1 := x2) hq0 z hz) (fun v5 m4 => ?_)
        refine xj_if_ne (tgt := 38) F dX1_resolveAll_33 (by decide) ?_ ?_
        · exact jX1_resolveAll_38 F hdep hr10 q0 q1 x2 m4 hq0 hq1
        · refine xj_iconst F 0 dX1_resolveAll_36 (by decide) ?_
          exact xj_retZ F rfl rfl dX1_resolveAll_37
set_option maxRecDepth 20000 in
set_option maxHeartbeats 4000000 in
theorem wX1_resolveAll {G : XG} {l : Launch} {d : Nat} (hn : xN G) (hdep : 2 ≤ d) {m0 : XM} (hT : xT G m0) {a0 : Nat} (ha0 : isa G a0 1) : ∀ z, fX1_resolveAll (xln G) a0 m0 = some z → xMet G l mX1_resolveAll d [.ref (xad G a0)] m0 (xrI z) := by
  refine xMet_of (by decide +kernel) hn hT (Nat.le_of_ble_eq_true rfl) (fun X F => ?_)
  refine xj_sub (lv' := [(0, .ref (xad G a0))]) [0] rfl ?_
  unfold fX1_resolveAll
  refine xj_aload_n F 0 dX1_resolveAll_0 rfl ?_
  refine xj_getR F ha0 lgX1_12 dX1_resolveAll_1 (fun u1 hu1 => ?_)
  refine xj_getR F hu1 lgX1_195 dX1_resolveAll_4 (fun u2 hu2 => ?_)
  refine xj_astore_n (lv' := [(1, .ref (xad G u2)), (0, .ref (xad G a0))]) F dX1_resolveAll_7 (by decide) rfl ?_
  refine xj_iconst F 0 dX1_resolveAll_8 (by decide) ?_
  refine xj_istore_n (lv' := [(2, .int 0), (1, .ref (xad G u2)), (0, .ref (xad G a0))]) F dX1_resolveAll_9 (by decide) rfl ?_
  refine xj_sub (lv' := [(0, .ref (xad G a0)), (1, .ref (xad G u2)), (2, .int 0)]) [2, 1, 0] rfl ?_
  exact jX1_resolveAll_10 F hdep XF a0 u2 0 m0 ha0 hu2
set_option maxRecDepth 20000 in
set_option maxHeartbeats 4000000 in
theorem jX1_readText_75 {G : XG} {l : Launch} {d : Nat} {X : XX} (F : xF (xE G d) G X mX1_readText) (hdep : 45 ≤ d) : ∀ (q0 : Nat) (x3 : Int32) (m0 : XM), isa G q0 1 → xJ (xE G d) (xQ xrI G X mX1_readText) G l X mX1_readText 75 [(0, .ref (xad G q0)), (3, .int x3)] [] m0 (fX1_readText_75 (xln G) q0 x3 m0) := by
  intro q0 x3 m0 hq0
  unfold fX1_readText_75
  refine xj_iload_n F 1 dX1_readText_75 rfl ?_
  refine xj_if_eq (tgt := 99) F dX1_readText_76 (by decide) ?_ ?_
  · refine xj_aload_n F 0 dX1_readText_99 rfl ?_
    refine xj_get F hq0 lgX1_56 dX1_readText_100 (fun v1 => ?_)
    exact xj_ret F rfl dX1_readText_103
  · refine xj_aload_n F 0 dX1_readText_79 rfl ?_
    refine xj_callVI (b := q0) (As := []) (d' := 42) F hq0 lmX1_63 rfl rfl (Nat.le_of_ble_eq_true rfl) (xfit (Nat.le_trans (Nat.le_of_ble_eq_true rfl) hdep)) dX1_readText_80 (fun hT z hz => wX1_readMain (xnd F) (Nat.le_refl _) hT (a0 := q0) hq0 z hz) (fun v3 m2 => ?_)
    refine xj_if_eq (tgt := 99) F dX1_readText_83 (by decide) ?_ ?_
    · refine xj_aload_n F 0 dX1_readText_99 rfl ?_
      refine xj_get F hq0 lgX1_56 dX1_readText_100 (fun v4 => ?_)
      exact xj_ret F rfl dX1_readText_103
    · refine xj_aload_n F 0 dX1_readText_86 rfl ?_
      refine xj_iconst F (-1) dX1_readText_87 (by decide) ?_
      refine xj_callVI (b := q0) (As := [.int (-1)]) (d' := 0) F hq0 lmX1_67 rfl rfl (Nat.le_of_ble_eq_true rfl) (xfit (Nat.le_trans (Nat.le_of_ble_eq_true rfl) hdep)) dX1_readText_88 (fun hT z hz => wX1_mustTake (xnd F) (Nat.le_refl _) hT (a0 := q0) (a1 := (-1)) hq0 z hz) (fun v6 m5 => ?_)
      refine xj_if_eq (tgt := 99) F dX1_readText_91 (by decide) ?_ ?_
      · refine xj_aload_n F 0 dX1_readText_99 rfl ?_
        refine xj_get F hq0 lgX1_56 dX1_readText_100 (fun v7 => ?_)
        exact xj_ret F rfl dX1_readText_103
      · refine xj_aload_n F 0 dX1_readText_94 rfl ?_
        refine xj_callVI (b := q0) (As := []) (d' := 2) F hq0 lmX1_70 rfl rfl (Nat.le_of_ble_eq_true rfl) (xfit (Nat.le_trans (Nat.le_of_ble_eq_true rfl) hdep)) dX1_readText_95 (fun hT z hz => wX1_resolveAll (xnd F) (Nat.le_refl _) hT (a0 := q0) hq0 z hz) (fun v9 m8 => ?_)
        refine xj_pop F dX1_readText_98 rfl ?_
        refine xj_aload_n F 0 dX1_readText_99 rfl ?_
        refine xj_get F hq0 lgX1_56 dX1_readText_100 (fun v10 => ?_)
        exact xj_ret F rfl dX1_readText_103
set_option maxRecDepth 20000 in
set_option maxHeartbeats 4000000 in
theorem jX1_readText_36 {G : XG} {l : Launch} {d : Nat} {X : XX} (F : xF (xE G d) G X mX1_readText) (hdep : 45 ≤ d) : ∀ (n : Nat) (q0 : Nat) (x3 : Int32) (x4 : Int32) (m0 : XM), isa G q0 1 → xJ (xE G d) (xQ xrI G X mX1_readText) G l X mX1_readText 36 [(0, .ref (xad G q0)), (3, .int x3), (4, .int x4)] [] m0 (fX1_readText_36 (xln G) n q0 x3 x4 m0) := by
  intro n
  induction n with
  | zero => intro q0 x3 x4 m0 hq0; exact xj_none
  | succ n hr36 =>
    intro q0 x3 x4 m0 hq0
    unfold fX1_readText_36
    generalize hrg36 : (fun q0 x3 x4 m0 => fX1_readText_36 (xln G) n q0 x3 x4 m0) = r36
    have hr36 : ∀ (q0 : Nat) (x3 : Int32) (x4 : Int32) (m0 : XM), isa G q0 1 → xJ (xE G d) (xQ xrI G X mX1_readText) G l X mX1_readText 36 [(0, .ref (xad G q0)), (3, .int x3), (4, .int x4)] [] m0 (r36 q0 x3 x4 m0) := by
      subst hrg36
      exact hr36
    clear hrg36
    refine xj_eq (xv_eq _ _) ?_
    refine xj_iload F 2 dX1_readText_36 rfl ?_
    refine xj_bipush F 7 dX1_readText_38 (by decide) ?_
    refine xj_icmp_gt (tgt := 75) F dX1_readText_40 (by decide) ?_ ?_
    · refine xj_sub (lv' := [(0, .ref (xad G q0)), (3, .int x3)]) [0, 1] rfl ?_
      exact jX1_readText_75 F hdep q0 x3 m0 hq0
    · refine xj_iload_n F 1 dX1_readText_43 rfl ?_
      refine xj_if_eq (tgt := 75) F dX1_readText_44 (by decide) ?_ ?_
      · refine xj_sub (lv' := [(0, .ref (xad G q0)), (3, .int x3)]) [0, 1] rfl ?_
        exact jX1_readText_75 F hdep q0 x3 m0 hq0
      · refine xj_aload_n F 0 dX1_readText_47 rfl ?_
        refine xj_getR F hq0 lgX1_31 dX1_readText_48 (fun u1 hu1 => ?_)
        refine xj_aload_n F 0 dX1_readText_51 rfl ?_
        refine xj_get F hq0 lgX1_52 dX1_readText_52 (fun v2 => ?_)
        refine xj_iald F hu1 dX1_readText_55 (fun v3 => ?_)
        refine xj_sipush F 260 dX1_readText_56 (by decide) ?_
        refine xj_icmp_ne (tgt := 75) F dX1_readText_59 (by decide) ?_ ?_
        · refine xj_sub (lv' := [(0, .ref (xad G q0)), (3, .int x3)]) [0, 1] rfl ?_
          exact jX1_readText_75 F hdep q0 x3 m0 hq0
        · refine xj_aload_n F 0 dX1_readText_62 rfl ?_
          refine xj_iload F 2 dX1_readText_63 rfl ?_
          refine xj_callVI (b := q0) (As := [.int x4]) (d' := 44) F hq0 lmX1_59 rfl rfl (Nat.le_of_ble_eq_true rfl) (xfit (Nat.le_trans (Nat.le_of_ble_eq_true rfl) hdep)) dX1_readText_65 (fun hT z hz => wX1_readUnit (xnd F) (Nat.le_refl _) hT (a0 := q0) (a1 := x4) hq0 z hz) (fun v5 m4 => ?_)
          refine xj_istore_n (lv' := [(3, .int v5), (0, .ref (xad G q0)), (4, .int x4)]) F dX1_readText_68 (by decide) rfl ?_
          refine xj_iinc F 2 1 (fun v6 => [(4, .int v6), (3, .int v5), (0, .ref (xad G q0))]) dX1_readText_69 rfl (by decide) (by decide) (fun _ => rfl) (fun v6 => ?_)
          refine xj_goto (tgt := 36) F dX1_readText_72 (by decide) ?_
          refine xj_sub (lv' := [(0, .ref (xad G q0)), (3, .int v5), (4, .int v6)]) [2, 1, 0] rfl ?_
          exact hr36 q0 v5 v6 m4 hq0
set_option maxRecDepth 20000 in
set_option maxHeartbeats 4000000 in
theorem wX1_readText {G : XG} {l : Launch} {d : Nat} (hn : xN G) (hdep : 45 ≤ d) {m0 : XM} (hT : xT G m0) {a0 : Nat} {a1 : Nat} {a2 : Int32} (ha0 : isa G a0 1) (ha1 : isa G a1 10) : ∀ z, fX1_readText (xln G) a0 a1 a2 m0 = some z → xMet G l mX1_readText d [.ref (xad G a0), .ref (xad G a1), .int a2] m0 (xrI z) := by
  refine xMet_of (by decide +kernel) hn hT (Nat.le_of_ble_eq_true rfl) (fun X F => ?_)
  refine xj_sub (lv' := [(0, .ref (xad G a0)), (1, .ref (xad G a1)), (2, .int a2)]) [0, 1, 2] rfl ?_
  unfold fX1_readText
  refine xj_aload_n F 0 dX1_readText_0 rfl ?_
  refine xj_aload_n F 1 dX1_readText_1 rfl ?_
  refine xj_iload_n F 2 dX1_readText_2 rfl ?_
  refine xj_callVV (b := a0) (As := [.ref (xad G a1), .int a2]) (d' := 8) F ha0 lmX1_40 rfl rfl (Nat.le_of_ble_eq_true rfl) (xfit (Nat.le_trans (Nat.le_of_ble_eq_true rfl) hdep)) dX1_readText_3 (fun hT z hz => wX1_cutTokens (xnd F) (Nat.le_refl _) hT (a0 := a0) (a1 := a1) (a2 := a2) ha0 ha1 z hz) (fun m1 => ?_)
  refine xj_aload_n F 0 dX1_readText_6 rfl ?_
  refine xj_getR F ha0 lgX1_12 dX1_readText_7 (fun u2 hu2 => ?_)
  refine xj_callVV (b := u2) (As := []) (d' := 1) F hu2 lmX1_44 rfl rfl (Nat.le_of_ble_eq_true rfl) (xfit (Nat.le_trans (Nat.le_of_ble_eq_true rfl) hdep)) dX1_readText_10 (fun hT z hz => wX6_clear (xnd F) (Nat.le_refl _) hT (a0 := u2) hu2 z hz) (fun m3 => ?_)
  refine xj_aload_n F 0 dX1_readText_13 rfl ?_
  refine xj_getR F ha0 lgX1_18 dX1_readText_14 (fun u4 hu4 => ?_)
  refine xj_iconst F (-1) dX1_readText_17 (by decide) ?_
  refine xj_callSV (As := [.ref (xad G u4), .int (-1)]) (d' := 0) F lmX1_47 rfl rfl (Nat.le_of_ble_eq_true rfl) (xfit (Nat.le_trans (Nat.le_of_ble_eq_true rfl) hdep)) dX1_readText_18 (fun hT z hz => wJ7_fill_53178 (xnd F) (Nat.le_refl _) hT (a0 := u4) (a1 := (-1)) hu4 z hz) (fun m5 => ?_)
  refine xj_aload_n F 0 dX1_readText_21 rfl ?_
  refine xj_iconst F 0 dX1_readText_22 (by decide) ?_
  refine xj_put F ha0 lpX1_52 dX1_readText_23 (fun m6 => ?_)
  refine xj_aload_n F 0 dX1_readText_26 rfl ?_
  refine xj_iconst F 0 dX1_readText_27 (by decide) ?_
  refine xj_put F ha0 lpX1_56 dX1_readText_28 (fun m7 => ?_)
  refine xj_iconst F 1 dX1_readText_31 (by decide) ?_
  refine xj_istore_n (lv' := [(3, .int 1), (0, .ref (xad G a0)), (1, .ref (xad G a1)), (2, .int a2)]) F dX1_readText_32 (by decide) rfl ?_
  refine xj_iconst F 0 dX1_readText_33 (by decide) ?_
  refine xj_istore (lv' := [(4, .int 0), (3, .int 1), (0, .ref (xad G a0)), (1, .ref (xad G a1)), (2, .int a2)]) F dX1_readText_34 (by decide) rfl ?_
  refine xj_sub (lv' := [(0, .ref (xad G a0)), (3, .int 1), (4, .int 0)]) [2, 1, 0] rfl ?_
  exact jX1_readText_36 F hdep XF a0 1 0 m7 ha0
set_option maxRecDepth 20000 in
set_option maxHeartbeats 4000000 in
theorem wX1_faultPlace {G : XG} {l : Launch} {d : Nat} (hn : xN G) (hdep : 0 ≤ d) {m0 : XM} (hT : xT G m0) {a0 : Nat} (ha0 : isa G a0 1) : ∀ z, fX1_faultPlace (xln G) a0 m0 = some z → xMet G l mX1_faultPlace d [.ref (xad G a0)] m0 (xrI z) := by
  refine xMet_of (by decide +kernel) hn hT (Nat.le_of_ble_eq_true rfl) (fun X F => ?_)
  refine xj_sub (lv' := [(0, .ref (xad G a0))]) [0] rfl ?_
  unfold fX1_faultPlace
  refine xj_aload_n F 0 dX1_faultPlace_0 rfl ?_
  refine xj_get F ha0 lgX1_73 dX1_faultPlace_1 (fun v1 => ?_)
  exact xj_ret F rfl dX1_faultPlace_4
set_option maxRecDepth 20000 in
set_option maxHeartbeats 4000000 in
theorem wX1_handOver {G : XG} {l : Launch} {d : Nat} (hn : xN G) (hdep : 0 ≤ d) {m0 : XM} (hT : xT G m0) {a0 : Nat} {a1 : Nat} (ha0 : isa G a0 1) (ha1 : isa G a1 6) : ∀ z, fX1_handOver (xln G) a0 a1 m0 = some z → xMet G l mX1_handOver d [.ref (xad G a0), .ref (xad G a1)] m0 ((xrR G) z) := by
  refine xMet_of (by decide +kernel) hn hT (Nat.le_of_ble_eq_true rfl) (fun X F => ?_)
  refine xj_sub (lv' := [(0, .ref (xad G a0)), (1, .ref (xad G a1))]) [0, 1] rfl ?_
  unfold fX1_handOver
  refine xj_aload_n F 0 dX1_handOver_0 rfl ?_
  refine xj_getR F ha0 lgX1_12 dX1_handOver_1 (fun u1 hu1 => ?_)
  refine xj_astore_n (lv' := [(2, .ref (xad G u1)), (0, .ref (xad G a0)), (1, .ref (xad G a1))]) F dX1_handOver_4 (by decide) rfl ?_
  refine xj_aload_n F 1 dX1_handOver_5 rfl ?_
  refine xj_aload_n F 2 dX1_handOver_6 rfl ?_
  refine xj_putR F ha0 lpX1_12 ha1 dX1_handOver_7 (fun m2 => ?_)
  refine xj_aload_n F 0 dX1_handOver_10 rfl ?_
  exact xj_retR F rfl hu1 (Or.inl ⟨_, rfl⟩) dX1_handOver_11
