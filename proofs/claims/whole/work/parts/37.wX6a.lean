set_option maxRecDepth 20000 in
set_option maxHeartbeats 4000000 in
theorem wX6_memberAt {G : XG} {l : Launch} {d : Nat} (hn : xN G) (hdep : 0 ≤ d) {m0 : XM} (hT : xT G m0) {a0 : Nat} {a1 : Int32} {a2 : Int32} (ha0 : isa G a0 6) : ∀ z, fX6_memberAt (xln G) a0 a1 a2 m0 = some z → xMet G l mX6_memberAt d [.ref (xad G a0), .int a1, .int a2] m0 (xrI z) := by
  refine xMet_of (by decide +kernel) hn hT (Nat.le_of_ble_eq_true rfl) (fun X F => ?_)
  refine xj_sub (lv' := [(0, .ref (xad G a0)), (1, .int a1), (2, .int a2)]) [0, 1, 2] rfl ?_
  unfold fX6_memberAt
  refine xj_aload_n F 0 dX6_memberAt_0 rfl ?_
  refine xj_getR F ha0 lgX6_36 dX6_memberAt_1 (fun u1 hu1 => ?_)
  refine xj_iload_n F 1 dX6_memberAt_4 rfl ?_
  refine xj_bipush F 12 dX6_memberAt_5 (by decide) ?_
  refine xj_imul F dX6_memberAt_7 (fun v2 => ?_)
  refine xj_iload_n F 2 dX6_memberAt_8 rfl ?_
  refine xj_iadd F dX6_memberAt_9 (fun v3 => ?_)
  refine xj_iald F hu1 dX6_memberAt_10 (fun v4 => ?_)
  exact xj_ret F rfl dX6_memberAt_11
set_option maxRecDepth 20000 in
set_option maxHeartbeats 4000000 in
theorem wX6_flip {G : XG} {l : Launch} {d : Nat} (hn : xN G) (hdep : 1 ≤ d) {m0 : XM} (hT : xT G m0) {a0 : Nat} {a1 : Int32} {a2 : Int32} (ha0 : isa G a0 6) : ∀ z, fX6_flip (xln G) a0 a1 a2 m0 = some z → xMet G l mX6_flip d [.ref (xad G a0), .int a1, .int a2] m0 (xrV z) := by
  refine xMet_of (by decide +kernel) hn hT (Nat.le_of_ble_eq_true rfl) (fun X F => ?_)
  refine xj_sub (lv' := [(0, .ref (xad G a0)), (1, .int a1), (2, .int a2)]) [0, 1, 2] rfl ?_
  unfold fX6_flip
  refine xj_aload_n F 0 dX6_flip_0 rfl ?_
  refine xj_iload_n F 1 dX6_flip_1 rfl ?_
  refine xj_iload_n F 2 dX6_flip_2 rfl ?_
  refine xj_callVI (b := a0) (As := [.int a1, .int a2]) (d' := 0) F ha0 lmX6_78 rfl rfl (Nat.le_of_ble_eq_true rfl) (xfit (Nat.le_trans (Nat.le_of_ble_eq_true rfl) hdep)) dX6_flip_3 (fun hT z hz => wX6_memberAt (xnd F) (Nat.le_refl _) hT (a0 := a0) (a1 := a1) (a2 := a2) ha0 z hz) (fun v2 m1 => ?_)
  refine xj_istore_n (lv' := [(3, .int v2), (0, .ref (xad G a0)), (1, .int a1), (2, .int a2)]) F dX6_flip_6 (by decide) rfl ?_
  refine xj_aload_n F 1 dX6_flip_7 rfl ?_
  refine xj_getR F ha0 lgX6_33 dX6_flip_8 (fun u3 hu3 => ?_)
  refine xj_iload_n F 0 dX6_flip_11 rfl ?_
  refine xj_iconst F 1 dX6_flip_12 (by decide) ?_
  refine xj_aload_n F 1 dX6_flip_13 rfl ?_
  refine xj_getR F ha0 lgX6_33 dX6_flip_14 (fun u4 hu4 => ?_)
  refine xj_iload_n F 0 dX6_flip_17 rfl ?_
  refine xj_iald F hu4 dX6_flip_18 (fun v5 => ?_)
  refine xj_isub F dX6_flip_19 (fun v6 => ?_)
  refine xj_iast F hu3 dX6_flip_20 (fun m7 => ?_)
  exact xj_retV F rfl dX6_flip_21
set_option maxRecDepth 20000 in
set_option maxHeartbeats 4000000 in
theorem jX6_shift_57 {G : XG} {l : Launch} {d : Nat} {X : XX} (F : xF (xE G d) G X mX6_shift) (hdep : 0 ≤ d) : ∀ (n : Nat) (q0 : Nat) (x3 : Int32) (x4 : Int32) (x5 : Int32) (x6 : Int32) (m0 : XM), isa G q0 6 → xJ (xE G d) (xQ xrV G X mX6_shift) G l X mX6_shift 57 [(0, .ref (xad G q0)), (3, .int x3), (4, .int x4), (5, .int x5), (6, .int x6)] [] m0 (fX6_shift_57 (xln G) n q0 x3 x4 x5 x6 m0) := by
  intro n
  induction n with
  | zero => intro q0 x3 x4 x5 x6 m0 hq0; exact xj_none
  | succ n hr57 =>
    intro q0 x3 x4 x5 x6 m0 hq0
    unfold fX6_shift_57
    generalize hrg57 : (fun q0 x3 x4 x5 x6 m0 => fX6_shift_57 (xln G) n q0 x3 x4 x5 x6 m0) = r57
    have hr57 : ∀ (q0 : Nat) (x3 : Int32) (x4 : Int32) (x5 : Int32) (x6 : Int32) (m0 : XM), isa G q0 6 → xJ (xE G d) (xQ xrV G X mX6_shift) G l X mX6_shift 57 [(0, .ref (xad G q0)), (3, .int x3), (4, .int x4), (5, .int x5), (6, .int x6)] [] m0 (r57 q0 x3 x4 x5 x6 m0) := by
      subst hrg57
      exact hr57
    clear hrg57
    refine xj_eq (xv_eq _ _) ?_
    refine xj_iload F 4 dX6_shift_57 rfl ?_
    refine xj_iload_n F 1 dX6_shift_59 rfl ?_
    refine xj_icmp_le (tgt := 91) F dX6_shift_60 (by decide) ?_ ?_
    · refine xj_aload_n F 0 dX6_shift_91 rfl ?_
      refine xj_getR F hq0 lgX6_36 dX6_shift_92 (fun u1 hu1 => ?_)
      refine xj_iload F 2 dX6_shift_95 rfl ?_
      refine xj_iload_n F 1 dX6_shift_97 rfl ?_
      refine xj_iadd F dX6_shift_98 (fun v2 => ?_)
      refine xj_iload F 3 dX6_shift_99 rfl ?_
      refine xj_iast F hu1 dX6_shift_101 (fun m3 => ?_)
      exact xj_retV F rfl dX6_shift_102
    · refine xj_aload_n F 0 dX6_shift_63 rfl ?_
      refine xj_getR F hq0 lgX6_36 dX6_shift_64 (fun u4 hu4 => ?_)
      refine xj_iload F 2 dX6_shift_67 rfl ?_
      refine xj_iload F 4 dX6_shift_69 rfl ?_
      refine xj_iadd F dX6_shift_71 (fun v5 => ?_)
      refine xj_aload_n F 0 dX6_shift_72 rfl ?_
      refine xj_getR F hq0 lgX6_36 dX6_shift_73 (fun u6 hu6 => ?_)
      refine xj_iload F 2 dX6_shift_76 rfl ?_
      refine xj_iload F 4 dX6_shift_78 rfl ?_
      refine xj_iadd F dX6_shift_80 (fun v7 => ?_)
      refine xj_iconst F 1 dX6_shift_81 (by decide) ?_
      refine xj_isub F dX6_shift_82 (fun v8 => ?_)
      refine xj_iald F hu6 dX6_shift_83 (fun v9 => ?_)
      refine xj_iast F hu4 dX6_shift_84 (fun m10 => ?_)
      refine xj_iinc F 4 (-1) (fun v11 => [(6, .int v11), (0, .ref (xad G q0)), (3, .int x3), (4, .int x4), (5, .int x5)]) dX6_shift_85 rfl (by decide) (by decide) (fun _ => rfl) (fun v11 => ?_)
      refine xj_goto (tgt := 57) F dX6_shift_88 (by decide) ?_
      refine xj_sub (lv' := [(0, .ref (xad G q0)), (3, .int x3), (4, .int x4), (5, .int x5), (6, .int v11)]) [1, 2, 3, 4, 0] rfl ?_
      exact hr57 q0 x3 x4 x5 v11 m10 hq0
set_option maxRecDepth 20000 in
set_option maxHeartbeats 4000000 in
theorem jX6_shift_20 {G : XG} {l : Launch} {d : Nat} {X : XX} (F : xF (xE G d) G X mX6_shift) (hdep : 0 ≤ d) : ∀ (n : Nat) (q0 : Nat) (x2 : Int32) (x3 : Int32) (x4 : Int32) (x5 : Int32) (x6 : Int32) (m0 : XM), isa G q0 6 → xJ (xE G d) (xQ xrV G X mX6_shift) G l X mX6_shift 20 [(0, .ref (xad G q0)), (2, .int x2), (3, .int x3), (4, .int x4), (5, .int x5), (6, .int x6)] [] m0 (fX6_shift_20 (xln G) n q0 x2 x3 x4 x5 x6 m0) := by
  intro n
  induction n with
  | zero => intro q0 x2 x3 x4 x5 x6 m0 hq0; exact xj_none
  | succ n hr20 =>
    intro q0 x2 x3 x4 x5 x6 m0 hq0
    unfold fX6_shift_20
    generalize hrg20 : (fun q0 x2 x3 x4 x5 x6 m0 => fX6_shift_20 (xln G) n q0 x2 x3 x4 x5 x6 m0) = r20
    have hr20 : ∀ (q0 : Nat) (x2 : Int32) (x3 : Int32) (x4 : Int32) (x5 : Int32) (x6 : Int32) (m0 : XM), isa G q0 6 → xJ (xE G d) (xQ xrV G X mX6_shift) G l X mX6_shift 20 [(0, .ref (xad G q0)), (2, .int x2), (3, .int x3), (4, .int x4), (5, .int x5), (6, .int x6)] [] m0 (r20 q0 x2 x3 x4 x5 x6 m0) := by
      subst hrg20
      exact hr20
    clear hrg20
    refine xj_eq (xv_eq _ _) ?_
    refine xj_iload F 5 dX6_shift_20 rfl ?_
    refine xj_iload_n F 2 dX6_shift_22 rfl ?_
    refine xj_icmp_ge (tgt := 54) F dX6_shift_23 (by decide) ?_ ?_
    · refine xj_iload_n F 1 dX6_shift_54 rfl ?_
      refine xj_istore (lv' := [(6, .int x2), (0, .ref (xad G q0)), (2, .int x2), (3, .int x3), (4, .int x4), (5, .int x5)]) F dX6_shift_55 (by decide) rfl ?_
      refine xj_sub (lv' := [(0, .ref (xad G q0)), (3, .int x3), (4, .int x4), (5, .int x5), (6, .int x2)]) [1, 3, 4, 5, 0] rfl ?_
      exact jX6_shift_57 F hdep XF q0 x3 x4 x5 x2 m0 hq0
    · refine xj_aload_n F 0 dX6_shift_26 rfl ?_
      refine xj_getR F hq0 lgX6_36 dX6_shift_27 (fun u1 hu1 => ?_)
      refine xj_iload F 3 dX6_shift_30 rfl ?_
      refine xj_iload F 5 dX6_shift_32 rfl ?_
      refine xj_iadd F dX6_shift_34 (fun v2 => ?_)
      refine xj_aload_n F 0 dX6_shift_35 rfl ?_
      refine xj_getR F hq0 lgX6_36 dX6_shift_36 (fun u3 hu3 => ?_)
      refine xj_iload F 3 dX6_shift_39 rfl ?_
      refine xj_iload F 5 dX6_shift_41 rfl ?_
      refine xj_iadd F dX6_shift_43 (fun v4 => ?_)
      refine xj_iconst F 1 dX6_shift_44 (by decide) ?_
      refine xj_iadd F dX6_shift_45 (fun v5 => ?_)
      refine xj_iald F hu3 dX6_shift_46 (fun v6 => ?_)
      refine xj_iast F hu1 dX6_shift_47 (fun m7 => ?_)
      refine xj_iinc F 5 1 (fun v8 => [(6, .int v8), (0, .ref (xad G q0)), (2, .int x2), (3, .int x3), (4, .int x4), (5, .int x5)]) dX6_shift_48 rfl (by decide) (by decide) (fun _ => rfl) (fun v8 => ?_)
      refine xj_goto (tgt := 20) F dX6_shift_51 (by decide) ?_
      refine xj_sub (lv' := [(0, .ref (xad G q0)), (2, .int x2), (3, .int x3), (4, .int x4), (5, .int x5), (6, .int v8)]) [1, 2, 3, 4, 5, 0] rfl ?_
      exact hr20 q0 x2 x3 x4 x5 v8 m7 hq0
set_option maxRecDepth 20000 in
set_option maxHeartbeats 4000000 in
theorem wX6_shift {G : XG} {l : Launch} {d : Nat} (hn : xN G) (hdep : 0 ≤ d) {m0 : XM} (hT : xT G m0) {a0 : Nat} {a1 : Int32} {a2 : Int32} {a3 : Int32} (ha0 : isa G a0 6) : ∀ z, fX6_shift (xln G) a0 a1 a2 a3 m0 = some z → xMet G l mX6_shift d [.ref (xad G a0), .int a1, .int a2, .int a3] m0 (xrV z) := by
  refine xMet_of (by decide +kernel) hn hT (Nat.le_of_ble_eq_true rfl) (fun X F => ?_)
  refine xj_sub (lv' := [(0, .ref (xad G a0)), (1, .int a1), (2, .int a2), (3, .int a3)]) [0, 1, 2, 3] rfl ?_
  unfold fX6_shift
  refine xj_iload_n F 1 dX6_shift_0 rfl ?_
  refine xj_bipush F 12 dX6_shift_1 (by decide) ?_
  refine xj_imul F dX6_shift_3 (fun v1 => ?_)
  refine xj_istore (lv' := [(4, .int v1), (0, .ref (xad G a0)), (1, .int a1), (2, .int a2), (3, .int a3)]) F dX6_shift_4 (by decide) rfl ?_
  refine xj_aload_n F 1 dX6_shift_6 rfl ?_
  refine xj_getR F ha0 lgX6_36 dX6_shift_7 (fun u2 hu2 => ?_)
  refine xj_iload F 0 dX6_shift_10 rfl ?_
  refine xj_iload_n F 3 dX6_shift_12 rfl ?_
  refine xj_iadd F dX6_shift_13 (fun v3 => ?_)
  refine xj_iald F hu2 dX6_shift_14 (fun v4 => ?_)
  refine xj_istore (lv' := [(5, .int v4), (4, .int v1), (0, .ref (xad G a0)), (1, .int a1), (2, .int a2), (3, .int a3)]) F dX6_shift_15 (by decide) rfl ?_
  refine xj_iload_n F 4 dX6_shift_17 rfl ?_
  refine xj_istore (lv' := [(6, .int a2), (5, .int v4), (4, .int v1), (0, .ref (xad G a0)), (1, .int a1), (2, .int a2), (3, .int a3)]) F dX6_shift_18 (by decide) rfl ?_
  refine xj_sub (lv' := [(0, .ref (xad G a0)), (2, .int a2), (3, .int a3), (4, .int v1), (5, .int v4), (6, .int a2)]) [3, 5, 6, 2, 1, 0] rfl ?_
  exact jX6_shift_20 F hdep XF a0 a2 a3 v1 v4 a2 m0 ha0
set_option maxRecDepth 20000 in
set_option maxHeartbeats 4000000 in
theorem wX6_clear {G : XG} {l : Launch} {d : Nat} (hn : xN G) (hdep : 1 ≤ d) {m0 : XM} (hT : xT G m0) {a0 : Nat} (ha0 : isa G a0 6) : ∀ z, fX6_clear (xln G) a0 m0 = some z → xMet G l mX6_clear d [.ref (xad G a0)] m0 (xrV z) := by
  refine xMet_of (by decide +kernel) hn hT (Nat.le_of_ble_eq_true rfl) (fun X F => ?_)
  refine xj_sub (lv' := [(0, .ref (xad G a0))]) [0] rfl ?_
  unfold fX6_clear
  refine xj_aload_n F 0 dX6_clear_0 rfl ?_
  refine xj_iconst F 0 dX6_clear_1 (by decide) ?_
  refine xj_put F ha0 lpX6_52 dX6_clear_2 (fun m1 => ?_)
  refine xj_aload_n F 0 dX6_clear_5 rfl ?_
  refine xj_iconst F 0 dX6_clear_6 (by decide) ?_
  refine xj_put F ha0 lpX6_56 dX6_clear_7 (fun m2 => ?_)
  refine xj_aload_n F 0 dX6_clear_10 rfl ?_
  refine xj_getR F ha0 lgX6_48 dX6_clear_11 (fun u3 hu3 => ?_)
  refine xj_iconst F 0 dX6_clear_14 (by decide) ?_
  refine xj_put F hu3 lpX6_59 dX6_clear_15 (fun m4 => ?_)
  refine xj_aload_n F 0 dX6_clear_18 rfl ?_
  refine xj_getR F ha0 lgX6_48 dX6_clear_19 (fun u5 hu5 => ?_)
  refine xj_iconst F 0 dX6_clear_22 (by decide) ?_
  refine xj_put F hu5 lpX6_62 dX6_clear_23 (fun m6 => ?_)
  refine xj_aload_n F 0 dX6_clear_26 rfl ?_
  refine xj_getR F ha0 lgX6_18 dX6_clear_27 (fun u7 hu7 => ?_)
  refine xj_iconst F 0 dX6_clear_30 (by decide) ?_
  refine xj_callSV (As := [.ref (xad G u7), .int 0]) (d' := 0) F lmX6_65 rfl rfl (Nat.le_of_ble_eq_true rfl) (xfit (Nat.le_trans (Nat.le_of_ble_eq_true rfl) hdep)) dX6_clear_31 (fun hT z hz => wJ7_fill_53178 (xnd F) (Nat.le_refl _) hT (a0 := u7) (a1 := 0) hu7 z hz) (fun m8 => ?_)
  refine xj_aload_n F 0 dX6_clear_34 rfl ?_
  refine xj_getR F ha0 lgX6_39 dX6_clear_35 (fun u9 hu9 => ?_)
  refine xj_iconst F (-1) dX6_clear_38 (by decide) ?_
  refine xj_callSV (As := [.ref (xad G u9), .int (-1)]) (d' := 0) F lmX6_65 rfl rfl (Nat.le_of_ble_eq_true rfl) (xfit (Nat.le_trans (Nat.le_of_ble_eq_true rfl) hdep)) dX6_clear_39 (fun hT z hz => wJ7_fill_53178 (xnd F) (Nat.le_refl _) hT (a0 := u9) (a1 := (-1)) hu9 z hz) (fun m10 => ?_)
  exact xj_retV F rfl dX6_clear_42
set_option maxRecDepth 20000 in
set_option maxHeartbeats 4000000 in
theorem wX6_addUnit {G : XG} {l : Launch} {d : Nat} (hn : xN G) (hdep : 0 ≤ d) {m0 : XM} (hT : xT G m0) {a0 : Nat} {a1 : Int32} {a2 : Int32} {a3 : Int32} (ha0 : isa G a0 6) : ∀ z, fX6_addUnit (xln G) a0 a1 a2 a3 m0 = some z → xMet G l mX6_addUnit d [.ref (xad G a0), .int a1, .int a2, .int a3] m0 (xrV z) := by
  refine xMet_of (by decide +kernel) hn hT (Nat.le_of_ble_eq_true rfl) (fun X F => ?_)
  refine xj_sub (lv' := [(0, .ref (xad G a0)), (1, .int a1), (2, .int a2), (3, .int a3)]) [0, 1, 2, 3] rfl ?_
  unfold fX6_addUnit
  refine xj_aload_n F 0 dX6_addUnit_0 rfl ?_
  refine xj_getR F ha0 lgX6_9 dX6_addUnit_1 (fun u1 hu1 => ?_)
  refine xj_iload_n F 1 dX6_addUnit_4 rfl ?_
  refine xj_iload_n F 2 dX6_addUnit_5 rfl ?_
  refine xj_iast F hu1 dX6_addUnit_6 (fun m2 => ?_)
  refine xj_aload_n F 0 dX6_addUnit_7 rfl ?_
  refine xj_getR F ha0 lgX6_15 dX6_addUnit_8 (fun u3 hu3 => ?_)
  refine xj_iload_n F 1 dX6_addUnit_11 rfl ?_
  refine xj_iload_n F 3 dX6_addUnit_12 rfl ?_
  refine xj_iast F hu3 dX6_addUnit_13 (fun m4 => ?_)
  refine xj_aload_n F 0 dX6_addUnit_14 rfl ?_
  refine xj_iload_n F 1 dX6_addUnit_15 rfl ?_
  refine xj_iconst F 1 dX6_addUnit_16 (by decide) ?_
  refine xj_iadd F dX6_addUnit_17 (fun v5 => ?_)
  refine xj_put F ha0 lpX6_52 dX6_addUnit_18 (fun m6 => ?_)
  exact xj_retV F rfl dX6_addUnit_21
set_option maxRecDepth 20000 in
set_option maxHeartbeats 4000000 in
theorem wX6_addMember {G : XG} {l : Launch} {d : Nat} (hn : xN G) (hdep : 0 ≤ d) {m0 : XM} (hT : xT G m0) {a0 : Nat} {a1 : Int32} {a2 : Int32} (ha0 : isa G a0 6) : ∀ z, fX6_addMember (xln G) a0 a1 a2 m0 = some z → xMet G l mX6_addMember d [.ref (xad G a0), .int a1, .int a2] m0 (xrV z) := by
  refine xMet_of (by decide +kernel) hn hT (Nat.le_of_ble_eq_true rfl) (fun X F => ?_)
  refine xj_sub (lv' := [(0, .ref (xad G a0)), (1, .int a1), (2, .int a2)]) [0, 1, 2] rfl ?_
  unfold fX6_addMember
  refine xj_aload_n F 0 dX6_addMember_0 rfl ?_
  refine xj_getR F ha0 lgX6_21 dX6_addMember_1 (fun u1 hu1 => ?_)
  refine xj_iload_n F 1 dX6_addMember_4 rfl ?_
  refine xj_iload_n F 2 dX6_addMember_5 rfl ?_
  refine xj_iast F hu1 dX6_addMember_6 (fun m2 => ?_)
  refine xj_aload_n F 0 dX6_addMember_7 rfl ?_
  refine xj_getR F ha0 lgX6_24 dX6_addMember_8 (fun u3 hu3 => ?_)
  refine xj_iload_n F 1 dX6_addMember_11 rfl ?_
  refine xj_iconst F (-1) dX6_addMember_12 (by decide) ?_
  refine xj_iast F hu3 dX6_addMember_13 (fun m4 => ?_)
  refine xj_aload_n F 0 dX6_addMember_14 rfl ?_
  refine xj_getR F ha0 lgX6_27 dX6_addMember_15 (fun u5 hu5 => ?_)
  refine xj_iload_n F 1 dX6_addMember_18 rfl ?_
  refine xj_iconst F (-1) dX6_addMember_19 (by decide) ?_
  refine xj_iast F hu5 dX6_addMember_20 (fun m6 => ?_)
  refine xj_aload_n F 0 dX6_addMember_21 rfl ?_
  refine xj_getR F ha0 lgX6_30 dX6_addMember_22 (fun u7 hu7 => ?_)
  refine xj_iload_n F 1 dX6_addMember_25 rfl ?_
  refine xj_iconst F (-1) dX6_addMember_26 (by decide) ?_
  refine xj_iast F hu7 dX6_addMember_27 (fun m8 => ?_)
  refine xj_aload_n F 0 dX6_addMember_28 rfl ?_
  refine xj_getR F ha0 lgX6_33 dX6_addMember_29 (fun u9 hu9 => ?_)
  refine xj_iload_n F 1 dX6_addMember_32 rfl ?_
  refine xj_iconst F 1 dX6_addMember_33 (by decide) ?_
  refine xj_iast F hu9 dX6_addMember_34 (fun m10 => ?_)
  refine xj_aload_n F 0 dX6_addMember_35 rfl ?_
  refine xj_getR F ha0 lgX6_36 dX6_addMember_36 (fun u11 hu11 => ?_)
  refine xj_iload_n F 1 dX6_addMember_39 rfl ?_
  refine xj_iload_n F 1 dX6_addMember_40 rfl ?_
  refine xj_iast F hu11 dX6_addMember_41 (fun m12 => ?_)
  refine xj_aload_n F 0 dX6_addMember_42 rfl ?_
  refine xj_getR F ha0 lgX6_18 dX6_addMember_43 (fun u13 hu13 => ?_)
  refine xj_iload_n F 1 dX6_addMember_46 rfl ?_
  refine xj_bipush F 12 dX6_addMember_47 (by decide) ?_
  refine xj_idiv F dX6_addMember_49 (fun v14 => ?_)
  refine xj_dup2 F dX6_addMember_50 rfl rfl ?_
  refine xj_iald F hu13 dX6_addMember_51 (fun v15 => ?_)
  refine xj_iconst F 1 dX6_addMember_52 (by decide) ?_
  refine xj_iadd F dX6_addMember_53 (fun v16 => ?_)
  refine xj_iast F hu13 dX6_addMember_54 (fun m17 => ?_)
  exact xj_retV F rfl dX6_addMember_55
set_option maxRecDepth 20000 in
set_option maxHeartbeats 4000000 in
theorem jX6_memberNamed_24 {G : XG} {l : Launch} {d : Nat} {X : XX} (F : xF (xE G d) G X mX6_memberNamed) (hdep : 0 ≤ d) : ∀ (m0 : XM), xJ (xE G d) (xQ xrI G X mX6_memberNamed) G l X mX6_memberNamed 24 [] [] m0 (fX6_memberNamed_24 (xln G)  m0) := by
  intro m0
  unfold fX6_memberNamed_24
  refine xj_iconst F (-1) dX6_memberNamed_24 (by decide) ?_
  exact xj_ret F rfl dX6_memberNamed_25
set_option maxRecDepth 20000 in
set_option maxHeartbeats 4000000 in
theorem wX6_memberNamed {G : XG} {l : Launch} {d : Nat} (hn : xN G) (hdep : 0 ≤ d) {m0 : XM} (hT : xT G m0) {a0 : Nat} {a1 : Int32} {a2 : Int32} (ha0 : isa G a0 6) : ∀ z, fX6_memberNamed (xln G) a0 a1 a2 m0 = some z → xMet G l mX6_memberNamed d [.ref (xad G a0), .int a1, .int a2] m0 (xrI z) := by
  refine xMet_of (by decide +kernel) hn hT (Nat.le_of_ble_eq_true rfl) (fun X F => ?_)
  refine xj_sub (lv' := [(0, .ref (xad G a0)), (1, .int a1), (2, .int a2)]) [0, 1, 2] rfl ?_
  unfold fX6_memberNamed
  refine xj_iload_n F 2 dX6_memberNamed_0 rfl ?_
  refine xj_if_lt (tgt := 24) F dX6_memberNamed_1 (by decide) ?_ ?_
  · refine xj_sub (lv' := []) [] rfl ?_
    exact jX6_memberNamed_24 F hdep m0
  · refine xj_iload_n F 2 dX6_memberNamed_4 rfl ?_
    refine xj_bipush F 26 dX6_memberNamed_5 (by decide) ?_
    refine xj_icmp_ge (tgt := 24) F dX6_memberNamed_7 (by decide) ?_ ?_
    · refine xj_sub (lv' := []) [] rfl ?_
      exact jX6_memberNamed_24 F hdep m0
    · refine xj_aload_n F 0 dX6_memberNamed_10 rfl ?_
      refine xj_getR F ha0 lgX6_39 dX6_memberNamed_11 (fun u1 hu1 => ?_)
      refine xj_iload_n F 1 dX6_memberNamed_14 rfl ?_
      refine xj_bipush F 26 dX6_memberNamed_15 (by decide) ?_
      refine xj_imul F dX6_memberNamed_17 (fun v2 => ?_)
      refine xj_iload_n F 2 dX6_memberNamed_18 rfl ?_
      refine xj_iadd F dX6_memberNamed_19 (fun v3 => ?_)
      refine xj_iald F hu1 dX6_memberNamed_20 (fun v4 => ?_)
      refine xj_goto (tgt := 25) F dX6_memberNamed_21 (by decide) ?_
      exact xj_ret F rfl dX6_memberNamed_25
set_option maxRecDepth 20000 in
set_option maxHeartbeats 4000000 in
theorem wX6_nameOf {G : XG} {l : Launch} {d : Nat} (hn : xN G) (hdep : 0 ≤ d) {m0 : XM} (hT : xT G m0) {a0 : Nat} {a1 : Int32} (ha0 : isa G a0 6) : ∀ z, fX6_nameOf (xln G) a0 a1 m0 = some z → xMet G l mX6_nameOf d [.ref (xad G a0), .int a1] m0 (xrI z) := by
  refine xMet_of (by decide +kernel) hn hT (Nat.le_of_ble_eq_true rfl) (fun X F => ?_)
  refine xj_sub (lv' := [(0, .ref (xad G a0)), (1, .int a1)]) [0, 1] rfl ?_
  unfold fX6_nameOf
  refine xj_aload_n F 0 dX6_nameOf_0 rfl ?_
  refine xj_getR F ha0 lgX6_21 dX6_nameOf_1 (fun u1 hu1 => ?_)
  refine xj_iload_n F 1 dX6_nameOf_4 rfl ?_
  refine xj_iald F hu1 dX6_nameOf_5 (fun v2 => ?_)
  refine xj_iconst F 3 dX6_nameOf_6 (by decide) ?_
  refine xj_icmp_ne (tgt := 32) F dX6_nameOf_7 (by decide) ?_ ?_
  · refine xj_aload_n F 0 dX6_nameOf_32 rfl ?_
    refine xj_getR F ha0 lgX6_24 dX6_nameOf_33 (fun u3 hu3 => ?_)
    refine xj_iload_n F 1 dX6_nameOf_36 rfl ?_
    refine xj_iald F hu3 dX6_nameOf_37 (fun v4 => ?_)
    exact xj_ret F rfl dX6_nameOf_38
  · refine xj_aload_n F 0 dX6_nameOf_10 rfl ?_
    refine xj_getR F ha0 lgX6_24 dX6_nameOf_11 (fun u5 hu5 => ?_)
    refine xj_aload_n F 0 dX6_nameOf_14 rfl ?_
    refine xj_getR F ha0 lgX6_48 dX6_nameOf_15 (fun u6 hu6 => ?_)
    refine xj_getR F hu6 lgX6_71 dX6_nameOf_18 (fun u7 hu7 => ?_)
    refine xj_aload_n F 0 dX6_nameOf_21 rfl ?_
    refine xj_getR F ha0 lgX6_30 dX6_nameOf_22 (fun u8 hu8 => ?_)
    refine xj_iload_n F 1 dX6_nameOf_25 rfl ?_
    refine xj_iald F hu8 dX6_nameOf_26 (fun v9 => ?_)
    refine xj_iald F hu7 dX6_nameOf_27 (fun v10 => ?_)
    refine xj_iald F hu5 dX6_nameOf_28 (fun v11 => ?_)
    refine xj_goto (tgt := 38) F dX6_nameOf_29 (by decide) ?_
    exact xj_ret F rfl dX6_nameOf_38
set_option maxRecDepth 20000 in
set_option maxHeartbeats 4000000 in
theorem wX6_termsOf {G : XG} {l : Launch} {d : Nat} (hn : xN G) (hdep : 1 ≤ d) {m0 : XM} (hT : xT G m0) {a0 : Nat} {a1 : Int32} (ha0 : isa G a0 6) : ∀ z, fX6_termsOf (xln G) a0 a1 m0 = some z → xMet G l mX6_termsOf d [.ref (xad G a0), .int a1] m0 (xrI z) := by
  refine xMet_of (by decide +kernel) hn hT (Nat.le_of_ble_eq_true rfl) (fun X F => ?_)
  refine xj_sub (lv' := [(0, .ref (xad G a0)), (1, .int a1)]) [0, 1] rfl ?_
  unfold fX6_termsOf
  refine xj_aload_n F 0 dX6_termsOf_0 rfl ?_
  refine xj_getR F ha0 lgX6_30 dX6_termsOf_1 (fun u1 hu1 => ?_)
  refine xj_iload_n F 1 dX6_termsOf_4 rfl ?_
  refine xj_iald F hu1 dX6_termsOf_5 (fun v2 => ?_)
  refine xj_iconst F (-1) dX6_termsOf_6 (by decide) ?_
  refine xj_icmp_ne (tgt := 12) F dX6_termsOf_7 (by decide) ?_ ?_
  · refine xj_aload_n F 0 dX6_termsOf_12 rfl ?_
    refine xj_getR F ha0 lgX6_48 dX6_termsOf_13 (fun u3 hu3 => ?_)
    refine xj_aload_n F 0 dX6_termsOf_16 rfl ?_
    refine xj_getR F ha0 lgX6_21 dX6_termsOf_17 (fun u4 hu4 => ?_)
    refine xj_iload_n F 1 dX6_termsOf_20 rfl ?_
    refine xj_iald F hu4 dX6_termsOf_21 (fun v5 => ?_)
    refine xj_iconst F 4 dX6_termsOf_22 (by decide) ?_
    refine xj_icmp_ne (tgt := 42) F dX6_termsOf_23 (by decide) ?_ ?_
    · refine xj_aload_n F 0 dX6_termsOf_42 rfl ?_
      refine xj_getR F ha0 lgX6_30 dX6_termsOf_43 (fun u6 hu6 => ?_)
      refine xj_iload_n F 1 dX6_termsOf_46 rfl ?_
      refine xj_iald F hu6 dX6_termsOf_47 (fun v7 => ?_)
      refine xj_callVI (b := u3) (As := [.int v7]) (d' := 0) F hu3 lmX6_74 rfl rfl (Nat.le_of_ble_eq_true rfl) (xfit (Nat.le_trans (Nat.le_of_ble_eq_true rfl) hdep)) dX6_termsOf_48 (fun hT z hz => wX5_countTerms (xnd F) (Nat.le_refl _) hT (a0 := u3) (a1 := v7) hu3 z hz) (fun v9 m8 => ?_)
      exact xj_ret F rfl dX6_termsOf_51
    · refine xj_aload_n F 0 dX6_termsOf_26 rfl ?_
      refine xj_getR F ha0 lgX6_30 dX6_termsOf_27 (fun u10 hu10 => ?_)
      refine xj_iload_n F 1 dX6_termsOf_30 rfl ?_
      refine xj_iald F hu10 dX6_termsOf_31 (fun v11 => ?_)
      refine xj_aload_n F 0 dX6_termsOf_32 rfl ?_
      refine xj_getR F ha0 lgX6_27 dX6_termsOf_33 (fun u12 hu12 => ?_)
      refine xj_iload_n F 1 dX6_termsOf_36 rfl ?_
      refine xj_iald F hu12 dX6_termsOf_37 (fun v13 => ?_)
      refine xj_iadd F dX6_termsOf_38 (fun v14 => ?_)
      refine xj_goto (tgt := 48) F dX6_termsOf_39 (by decide) ?_
      refine xj_callVI (b := u3) (As := [.int v14]) (d' := 0) F hu3 lmX6_74 rfl rfl (Nat.le_of_ble_eq_true rfl) (xfit (Nat.le_trans (Nat.le_of_ble_eq_true rfl) hdep)) dX6_termsOf_48 (fun hT z hz => wX5_countTerms (xnd F) (Nat.le_refl _) hT (a0 := u3) (a1 := v14) hu3 z hz) (fun v16 m15 => ?_)
      exact xj_ret F rfl dX6_termsOf_51
  · refine xj_iconst F 0 dX6_termsOf_10 (by decide) ?_
    exact xj_ret F rfl dX6_termsOf_11
set_option maxRecDepth 20000 in
set_option maxHeartbeats 4000000 in
theorem wX6_detailOf {G : XG} {l : Launch} {d : Nat} (hn : xN G) (hdep : 0 ≤ d) {m0 : XM} (hT : xT G m0) {a0 : Nat} {a1 : Int32} (ha0 : isa G a0 6) : ∀ z, fX6_detailOf (xln G) a0 a1 m0 = some z → xMet G l mX6_detailOf d [.ref (xad G a0), .int a1] m0 (xrI z) := by
  refine xMet_of (by decide +kernel) hn hT (Nat.le_of_ble_eq_true rfl) (fun X F => ?_)
  refine xj_sub (lv' := [(0, .ref (xad G a0)), (1, .int a1)]) [0, 1] rfl ?_
  unfold fX6_detailOf
  refine xj_aload_n F 0 dX6_detailOf_0 rfl ?_
  refine xj_getR F ha0 lgX6_21 dX6_detailOf_1 (fun u1 hu1 => ?_)
  refine xj_iload_n F 1 dX6_detailOf_4 rfl ?_
  refine xj_iald F hu1 dX6_detailOf_5 (fun v2 => ?_)
  refine xj_iconst F 3 dX6_detailOf_6 (by decide) ?_
  refine xj_icmp_ne (tgt := 30) F dX6_detailOf_7 (by decide) ?_ ?_
  · refine xj_aload_n F 0 dX6_detailOf_30 rfl ?_
    refine xj_getR F ha0 lgX6_27 dX6_detailOf_31 (fun u3 hu3 => ?_)
    refine xj_iload_n F 1 dX6_detailOf_34 rfl ?_
    refine xj_iald F hu3 dX6_detailOf_35 (fun v4 => ?_)
    exact xj_ret F rfl dX6_detailOf_36
  · refine xj_aload_n F 0 dX6_detailOf_10 rfl ?_
    refine xj_getR F ha0 lgX6_48 dX6_detailOf_11 (fun u5 hu5 => ?_)
    refine xj_getR F hu5 lgX6_71 dX6_detailOf_14 (fun u6 hu6 => ?_)
    refine xj_aload_n F 0 dX6_detailOf_17 rfl ?_
    refine xj_getR F ha0 lgX6_30 dX6_detailOf_18 (fun u7 hu7 => ?_)
    refine xj_iload_n F 1 dX6_detailOf_21 rfl ?_
    refine xj_iald F hu7 dX6_detailOf_22 (fun v8 => ?_)
    refine xj_iald F hu6 dX6_detailOf_23 (fun v9 => ?_)
    refine xj_bipush F 12 dX6_detailOf_24 (by decide) ?_
    refine xj_idiv F dX6_detailOf_26 (fun v10 => ?_)
    refine xj_goto (tgt := 36) F dX6_detailOf_27 (by decide) ?_
    exact xj_ret F rfl dX6_detailOf_36
set_option maxRecDepth 20000 in
set_option maxHeartbeats 4000000 in
theorem jX6_countKind_35 {G : XG} {l : Launch} {d : Nat} {X : XX} (F : xF (xE G d) G X mX6_countKind) (hdep : 0 ≤ d) {r5 : Nat → Int32 → Int32 → Int32 → Int32 → XM → Option (Int32 × XM)} (hr5 : ∀ (q0 : Nat) (x1 : Int32) (x2 : Int32) (x3 : Int32) (x4 : Int32) (m0 : XM), isa G q0 6 → xJ (xE G d) (xQ xrI G X mX6_countKind) G l X mX6_countKind 5 [(0, .ref (xad G q0)), (1, .int x1), (2, .int x2), (3, .int x3), (4, .int x4)] [] m0 (r5 q0 x1 x2 x3 x4 m0)) : ∀ (q0 : Nat) (x1 : Int32) (x2 : Int32) (x3 : Int32) (x4 : Int32) (m0 : XM), isa G q0 6 → xJ (xE G d) (xQ xrI G X mX6_countKind) G l X mX6_countKind 35 [(0, .ref (xad G q0)), (1, .int x1), (2, .int x2), (3, .int x3), (4, .int x4)] [] m0 (fX6_countKind_35 (xln G) r5 q0 x1 x2 x3 x4 m0) := by
  intro q0 x1 x2 x3 x4 m0 hq0
  unfold fX6_countKind_35
  refine xj_iinc F 4 1 (fun v1 => [(4, .int v1), (0, .ref (xad G q0)), (1, .int x1), (2, .int x2), (3, .int x3)]) dX6_countKind_35 rfl (by decide) (by decide) (fun _ => rfl) (fun v1 => ?_)
  refine xj_goto (tgt := 5) F dX6_countKind_38 (by decide) ?_
  refine xj_sub (lv' := [(0, .ref (xad G q0)), (1, .int x1), (2, .int x2), (3, .int x3), (4, .int v1)]) [1, 2, 3, 4, 0] rfl ?_
  exact hr5 q0 x1 x2 x3 v1 m0 hq0
set_option maxRecDepth 20000 in
set_option maxHeartbeats 4000000 in
theorem jX6_countKind_5 {G : XG} {l : Launch} {d : Nat} {X : XX} (F : xF (xE G d) G X mX6_countKind) (hdep : 0 ≤ d) : ∀ (n : Nat) (q0 : Nat) (x1 : Int32) (x2 : Int32) (x3 : Int32) (x4 : Int32) (m0 : XM), isa G q0 6 → xJ (xE G d) (xQ xrI G X mX6_countKind) G l X mX6_countKind 5 [(0, .ref (xad G q0)), (1, .int x1), (2, .int x2), (3, .int x3), (4, .int x4)] [] m0 (fX6_countKind_5 (xln G) n q0 x1 x2 x3 x4 m0) := by
  intro n
  induction n with
  | zero => intro q0 x1 x2 x3 x4 m0 hq0; exact xj_none
  | succ n hr5 =>
    intro q0 x1 x2 x3 x4 m0 hq0
    unfold fX6_countKind_5
    generalize hrg5 : (fun q0 x1 x2 x3 x4 m0 => fX6_countKind_5 (xln G) n q0 x1 x2 x3 x4 m0) = r5
    have hr5 : ∀ (q0 : Nat) (x1 : Int32) (x2 : Int32) (x3 : Int32) (x4 : Int32) (m0 : XM), isa G q0 6 → xJ (xE G d) (xQ xrI G X mX6_countKind) G l X mX6_countKind 5 [(0, .ref (xad G q0)), (1, .int x1), (2, .int x2), (3, .int x3), (4, .int x4)] [] m0 (r5 q0 x1 x2 x3 x4 m0) := by
      subst hrg5
      exact hr5
    clear hrg5
    refine xj_eq (xv_eq _ _) ?_
    refine xj_iload F 4 dX6_countKind_5 rfl ?_
    refine xj_aload_n F 0 dX6_countKind_7 rfl ?_
    refine xj_getR F hq0 lgX6_18 dX6_countKind_8 (fun u1 hu1 => ?_)
    refine xj_iload_n F 1 dX6_countKind_11 rfl ?_
    refine xj_iald F hu1 dX6_countKind_12 (fun v2 => ?_)
    refine xj_icmp_ge (tgt := 41) F dX6_countKind_13 (by decide) ?_ ?_
    · refine xj_iload_n F 3 dX6_countKind_41 rfl ?_
      exact xj_ret F rfl dX6_countKind_42
    · refine xj_aload_n F 0 dX6_countKind_16 rfl ?_
      refine xj_getR F hq0 lgX6_21 dX6_countKind_17 (fun u3 hu3 => ?_)
      refine xj_iload_n F 1 dX6_countKind_20 rfl ?_
      refine xj_bipush F 12 dX6_countKind_21 (by decide) ?_
      refine xj_imul F dX6_countKind_23 (fun v4 => ?_)
      refine xj_iload F 4 dX6_countKind_24 rfl ?_
      refine xj_iadd F dX6_countKind_26 (fun v5 => ?_)
      refine xj_iald F hu3 dX6_countKind_27 (fun v6 => ?_)
      refine xj_iload_n F 2 dX6_countKind_28 rfl ?_
      refine xj_icmp_ne (tgt := 35) F dX6_countKind_29 (by decide) ?_ ?_
      · exact jX6_countKind_35 F hdep hr5 q0 x1 x2 x3 x4 m0 hq0
      · refine xj_iinc F 3 1 (fun v7 => [(3, .int v7), (0, .ref (xad G q0)), (1, .int x1), (2, .int x2), (4, .int x4)]) dX6_countKind_32 rfl (by decide) (by decide) (fun _ => rfl) (fun v7 => ?_)
        refine xj_sub (lv' := [(0, .ref (xad G q0)), (1, .int x1), (2, .int x2), (3, .int v7), (4, .int x4)]) [1, 2, 3, 0, 4] rfl ?_
        exact jX6_countKind_35 F hdep hr5 q0 x1 x2 v7 x4 m0 hq0
set_option maxRecDepth 20000 in
set_option maxHeartbeats 4000000 in
theorem wX6_countKind {G : XG} {l : Launch} {d : Nat} (hn : xN G) (hdep : 0 ≤ d) {m0 : XM} (hT : xT G m0) {a0 : Nat} {a1 : Int32} {a2 : Int32} (ha0 : isa G a0 6) : ∀ z, fX6_countKind (xln G) a0 a1 a2 m0 = some z → xMet G l mX6_countKind d [.ref (xad G a0), .int a1, .int a2] m0 (xrI z) := by
  refine xMet_of (by decide +kernel) hn hT (Nat.le_of_ble_eq_true rfl) (fun X F => ?_)
  refine xj_sub (lv' := [(0, .ref (xad G a0)), (1, .int a1), (2, .int a2)]) [0, 1, 2] rfl ?_
  unfold fX6_countKind
  refine xj_iconst F 0 dX6_countKind_0 (by decide) ?_
  refine xj_istore_n (lv' := [(3, .int 0), (0, .ref (xad G a0)), (1, .int a1), (2, .int a2)]) F dX6_countKind_1 (by decide) rfl ?_
  refine xj_iconst F 0 dX6_countKind_2 (by decide) ?_
  refine xj_istore (lv' := [(4, .int 0), (3, .int 0), (0, .ref (xad G a0)), (1, .int a1), (2, .int a2)]) F dX6_countKind_3 (by decide) rfl ?_
  refine xj_sub (lv' := [(0, .ref (xad G a0)), (1, .int a1), (2, .int a2), (3, .int 0), (4, .int 0)]) [2, 3, 4, 1, 0] rfl ?_
  exact jX6_countKind_5 F hdep XF a0 a1 a2 0 0 m0 ha0
set_option maxRecDepth 20000 in
set_option maxHeartbeats 4000000 in
theorem jX6_countMembers_49 {G : XG} {l : Launch} {d : Nat} {X : XX} (F : xF (xE G d) G X mX6_countMembers) (hdep : 0 ≤ d) {r4 : Nat → Int32 → Int32 → Int32 → XM → Option (Int32 × XM)} (hr4 : ∀ (q0 : Nat) (x1 : Int32) (x2 : Int32) (x3 : Int32) (m0 : XM), isa G q0 6 → xJ (xE G d) (xQ xrI G X mX6_countMembers) G l X mX6_countMembers 4 [(0, .ref (xad G q0)), (1, .int x1), (2, .int x2), (3, .int x3)] [] m0 (r4 q0 x1 x2 x3 m0)) {r15 : Nat → Int32 → Int32 → Int32 → Int32 → XM → Option (Int32 × XM)} (hr15 : ∀ (q0 : Nat) (x1 : Int32) (x2 : Int32) (x3 : Int32) (x4 : Int32) (m0 : XM), isa G q0 6 → xJ (xE G d) (xQ xrI G X mX6_countMembers) G l X mX6_countMembers 15 [(0, .ref (xad G q0)), (1, .int x1), (2, .int x2), (3, .int x3), (4, .int x4)] [] m0 (r15 q0 x1 x2 x3 x4 m0)) : ∀ (q0 : Nat) (x1 : Int32) (x2 : Int32) (x3 : Int32) (x4 : Int32) (m0 : XM), isa G q0 6 → xJ (xE G d) (xQ xrI G X mX6_countMembers) G l X mX6_countMembers 49 [(0, .ref (xad G q0)), (1, .int x1), (2, .int x2), (3, .int x3), (4, .int x4)] [] m0 (fX6_countMembers_49 (xln G) r4 r15 q0 x1 x2 x3 x4 m0) := by
  intro q0 x1 x2 x3 x4 m0 hq0
  unfold fX6_countMembers_49
  refine xj_iinc F 4 1 (fun v1 => [(4, .int v1), (0, .ref (xad G q0)), (1, .int x1), (2, .int x2), (3, .int x3)]) dX6_countMembers_49 rfl (by decide) (by decide) (fun _ => rfl) (fun v1 => ?_)
  refine xj_goto (tgt := 15) F dX6_countMembers_52 (by decide) ?_
  refine xj_sub (lv' := [(0, .ref (xad G q0)), (1, .int x1), (2, .int x2), (3, .int x3), (4, .int v1)]) [1, 2, 3, 4, 0] rfl ?_
  exact hr15 q0 x1 x2 x3 v1 m0 hq0
set_option maxRecDepth 20000 in
set_option maxHeartbeats 4000000 in
theorem jX6_countMembers_46 {G : XG} {l : Launch} {d : Nat} {X : XX} (F : xF (xE G d) G X mX6_countMembers) (hdep : 0 ≤ d) {r4 : Nat → Int32 → Int32 → Int32 → XM → Option (Int32 × XM)} (hr4 : ∀ (q0 : Nat) (x1 : Int32) (x2 : Int32) (x3 : Int32) (m0 : XM), isa G q0 6 → xJ (xE G d) (xQ xrI G X mX6_countMembers) G l X mX6_countMembers 4 [(0, .ref (xad G q0)), (1, .int x1), (2, .int x2), (3, .int x3)] [] m0 (r4 q0 x1 x2 x3 m0)) {r15 : Nat → Int32 → Int32 → Int32 → Int32 → XM → Option (Int32 × XM)} (hr15 : ∀ (q0 : Nat) (x1 : Int32) (x2 : Int32) (x3 : Int32) (x4 : Int32) (m0 : XM), isa G q0 6 → xJ (xE G d) (xQ xrI G X mX6_countMembers) G l X mX6_countMembers 15 [(0, .ref (xad G q0)), (1, .int x1), (2, .int x2), (3, .int x3), (4, .int x4)] [] m0 (r15 q0 x1 x2 x3 x4 m0)) : ∀ (q0 : Nat) (x1 : Int32) (x2 : Int32) (x3 : Int32) (x4 : Int32) (m0 : XM), isa G q0 6 → xJ (xE G d) (xQ xrI G X mX6_countMembers) G l X mX6_countMembers 46 [(0, .ref (xad G q0)), (1, .int x1), (2, .int x2), (3, .int x3), (4, .int x4)] [] m0 (fX6_countMembers_46 (xln G) r4 r15 q0 x1 x2 x3 x4 m0) := by
  intro q0 x1 x2 x3 x4 m0 hq0
  unfold fX6_countMembers_46
  refine xj_iinc F 2 1 (fun v1 => [(2, .int v1), (0, .ref (xad G q0)), (1, .int x1), (3, .int x3), (4, .int x4)]) dX6_countMembers_46 rfl (by decide) (by decide) (fun _ => rfl) (fun v1 => ?_)
  refine xj_sub (lv' := [(0, .ref (xad G q0)), (1, .int x1), (2, .int v1), (3, .int x3), (4, .int x4)]) [1, 2, 0, 3, 4] rfl ?_
  exact jX6_countMembers_49 F hdep hr4 hr15 q0 x1 v1 x3 x4 m0 hq0
set_option maxRecDepth 20000 in
set_option maxHeartbeats 4000000 in
theorem jX6_countMembers_15 {G : XG} {l : Launch} {d : Nat} {X : XX} (F : xF (xE G d) G X mX6_countMembers) (hdep : 0 ≤ d) {r4 : Nat → Int32 → Int32 → Int32 → XM → Option (Int32 × XM)} (hr4 : ∀ (q0 : Nat) (x1 : Int32) (x2 : Int32) (x3 : Int32) (m0 : XM), isa G q0 6 → xJ (xE G d) (xQ xrI G X mX6_countMembers) G l X mX6_countMembers 4 [(0, .ref (xad G q0)), (1, .int x1), (2, .int x2), (3, .int x3)] [] m0 (r4 q0 x1 x2 x3 m0)) : ∀ (n : Nat) (q0 : Nat) (x1 : Int32) (x2 : Int32) (x3 : Int32) (x4 : Int32) (m0 : XM), isa G q0 6 → xJ (xE G d) (xQ xrI G X mX6_countMembers) G l X mX6_countMembers 15 [(0, .ref (xad G q0)), (1, .int x1), (2, .int x2), (3, .int x3), (4, .int x4)] [] m0 (fX6_countMembers_15 (xln G) r4 n q0 x1 x2 x3 x4 m0) := by
  intro n
  induction n with
  | zero => intro q0 x1 x2 x3 x4 m0 hq0; exact xj_none
  | succ n hr15 =>
    intro q0 x1 x2 x3 x4 m0 hq0
    unfold fX6_countMembers_15
    generalize hrg15 : (fun q0 x1 x2 x3 x4 m0 => fX6_countMembers_15 (xln G) r4 n q0 x1 x2 x3 x4 m0) = r15
    have hr15 : ∀ (q0 : Nat) (x1 : Int32) (x2 : Int32) (x3 : Int32) (x4 : Int32) (m0 : XM), isa G q0 6 → xJ (xE G d) (xQ xrI G X mX6_countMembers) G l X mX6_countMembers 15 [(0, .ref (xad G q0)), (1, .int x1), (2, .int x2), (3, .int x3), (4, .int x4)] [] m0 (r15 q0 x1 x2 x3 x4 m0) := by
      subst hrg15
      exact hr15
    clear hrg15
    refine xj_eq (xv_eq _ _) ?_
    refine xj_iload F 4 dX6_countMembers_15 rfl ?_
    refine xj_aload_n F 0 dX6_countMembers_17 rfl ?_
    refine xj_getR F hq0 lgX6_18 dX6_countMembers_18 (fun u1 hu1 => ?_)
    refine xj_iload_n F 3 dX6_countMembers_21 rfl ?_
    refine xj_iald F hu1 dX6_countMembers_22 (fun v2 => ?_)
    refine xj_icmp_ge (tgt := 55) F dX6_countMembers_23 (by decide) ?_ ?_
    · refine xj_iinc F 3 1 (fun v3 => [(3, .int v3), (0, .ref (xad G q0)), (1, .int x1), (2, .int x2), (4, .int x4)]) dX6_countMembers_55 rfl (by decide) (by decide) (fun _ => rfl) (fun v3 => ?_)
      refine xj_goto (tgt := 4) F dX6_countMembers_58 (by decide) ?_
      refine xj_sub (lv' := [(0, .ref (xad G q0)), (1, .int x1), (2, .int x2), (3, .int v3)]) [1, 2, 3, 0] rfl ?_
      exact hr4 q0 x1 x2 v3 m0 hq0
    · refine xj_iload_n F 1 dX6_countMembers_26 rfl ?_
      refine xj_if_eq (tgt := 46) F dX6_countMembers_27 (by decide) ?_ ?_
      · exact jX6_countMembers_46 F hdep hr4 hr15 q0 x1 x2 x3 x4 m0 hq0
      · refine xj_aload_n F 0 dX6_countMembers_30 rfl ?_
        refine xj_getR F hq0 lgX6_33 dX6_countMembers_31 (fun u4 hu4 => ?_)
        refine xj_iload_n F 3 dX6_countMembers_34 rfl ?_
        refine xj_bipush F 12 dX6_countMembers_35 (by decide) ?_
        refine xj_imul F dX6_countMembers_37 (fun v5 => ?_)
        refine xj_iload F 4 dX6_countMembers_38 rfl ?_
        refine xj_iadd F dX6_countMembers_40 (fun v6 => ?_)
        refine xj_iald F hu4 dX6_countMembers_41 (fun v7 => ?_)
        refine xj_iconst F 1 dX6_countMembers_42 (by decide) ?_
        refine xj_icmp_ne (tgt := 49) F dX6_countMembers_43 (by decide) ?_ ?_
        · exact jX6_countMembers_49 F hdep hr4 hr15 q0 x1 x2 x3 x4 m0 hq0
        · exact jX6_countMembers_46 F hdep hr4 hr15 q0 x1 x2 x3 x4 m0 hq0
set_option maxRecDepth 20000 in
set_option maxHeartbeats 4000000 in
theorem jX6_countMembers_4 {G : XG} {l : Launch} {d : Nat} {X : XX} (F : xF (xE G d) G X mX6_countMembers) (hdep : 0 ≤ d) : ∀ (n : Nat) (q0 : Nat) (x1 : Int32) (x2 : Int32) (x3 : Int32) (m0 : XM), isa G q0 6 → xJ (xE G d) (xQ xrI G X mX6_countMembers) G l X mX6_countMembers 4 [(0, .ref (xad G q0)), (1, .int x1), (2, .int x2), (3, .int x3)] [] m0 (fX6_countMembers_4 (xln G) n q0 x1 x2 x3 m0) := by
  intro n
  induction n with
  | zero => intro q0 x1 x2 x3 m0 hq0; exact xj_none
  | succ n hr4 =>
    intro q0 x1 x2 x3 m0 hq0
    unfold fX6_countMembers_4
    generalize hrg4 : (fun q0 x1 x2 x3 m0 => fX6_countMembers_4 (xln G) n q0 x1 x2 x3 m0) = r4
    have hr4 : ∀ (q0 : Nat) (x1 : Int32) (x2 : Int32) (x3 : Int32) (m0 : XM), isa G q0 6 → xJ (xE G d) (xQ xrI G X mX6_countMembers) G l X mX6_countMembers 4 [(0, .ref (xad G q0)), (1, .int x1), (2, .int x2), (3, .int x3)] [] m0 (r4 q0 x1 x2 x3 m0) := by
      subst hrg4
      exact hr4
    clear hrg4
    refine xj_eq (xv_eq _ _) ?_
    refine xj_iload_n F 3 dX6_countMembers_4 rfl ?_
    refine xj_aload_n F 0 dX6_countMembers_5 rfl ?_
    refine xj_get F hq0 lgX6_52 dX6_countMembers_6 (fun v1 => ?_)
    refine xj_icmp_ge (tgt := 61) F dX6_countMembers_9 (by decide) ?_ ?_
    · refine xj_iload_n F 2 dX6_countMembers_61 rfl ?_
      exact xj_ret F rfl dX6_countMembers_62
    · refine xj_iconst F 0 dX6_countMembers_12 (by decide) ?_
      refine xj_istore (lv' := [(4, .int 0), (0, .ref (xad G q0)), (1, .int x1), (2, .int x2), (3, .int x3)]) F dX6_countMembers_13 (by decide) rfl ?_
      refine xj_sub (lv' := [(0, .ref (xad G q0)), (1, .int x1), (2, .int x2), (3, .int x3), (4, .int 0)]) [1, 2, 3, 4, 0] rfl ?_
      exact jX6_countMembers_15 F hdep hr4 XF q0 x1 x2 x3 0 m0 hq0
set_option maxRecDepth 20000 in
set_option maxHeartbeats 4000000 in
theorem wX6_countMembers {G : XG} {l : Launch} {d : Nat} (hn : xN G) (hdep : 0 ≤ d) {m0 : XM} (hT : xT G m0) {a0 : Nat} {a1 : Int32} (ha0 : isa G a0 6) : ∀ z, fX6_countMembers (xln G) a0 a1 m0 = some z → xMet G l mX6_countMembers d [.ref (xad G a0), .int a1] m0 (xrI z) := by
  refine xMet_of (by decide +kernel) hn hT (Nat.le_of_ble_eq_true rfl) (fun X F => ?_)
  refine xj_sub (lv' := [(0, .ref (xad G a0)), (1, .int a1)]) [0, 1] rfl ?_
  unfold fX6_countMembers
  refine xj_iconst F 0 dX6_countMembers_0 (by decide) ?_
  refine xj_istore_n (lv' := [(2, .int 0), (0, .ref (xad G a0)), (1, .int a1)]) F dX6_countMembers_1 (by decide) rfl ?_
  refine xj_iconst F 0 dX6_countMembers_2 (by decide) ?_
  refine xj_istore_n (lv' := [(3, .int 0), (2, .int 0), (0, .ref (xad G a0)), (1, .int a1)]) F dX6_countMembers_3 (by decide) rfl ?_
  refine xj_sub (lv' := [(0, .ref (xad G a0)), (1, .int a1), (2, .int 0), (3, .int 0)]) [2, 3, 1, 0] rfl ?_
  exact jX6_countMembers_4 F hdep XF a0 a1 0 0 m0 ha0
