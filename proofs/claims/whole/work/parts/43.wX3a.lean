set_option maxRecDepth 20000 in
set_option maxHeartbeats 4000000 in
theorem jX3_setStates_51 {G : XG} {l : Launch} {d : Nat} {X : XX} (F : xF (xE G d) G X mX3_setStates) (hdep : 2 ≤ d) {r15 : Nat → Int32 → Int32 → XM → Option XM} (hr15 : ∀ (q0 : Nat) (x2 : Int32) (x3 : Int32) (m0 : XM), isa G q0 3 → xJ (xE G d) (xQ xrV G X mX3_setStates) G l X mX3_setStates 15 [(0, .ref (xad G q0)), (2, .int x2), (3, .int x3)] [] m0 (r15 q0 x2 x3 m0)) : ∀ (q0 : Nat) (x2 : Int32) (x3 : Int32) (p0 : Nat) (s1 : Int32) (s2 : Int32) (m0 : XM), isa G q0 3 → isa G p0 10 → xJ (xE G d) (xQ xrV G X mX3_setStates) G l X mX3_setStates 51 [(0, .ref (xad G q0)), (2, .int x2), (3, .int x3)] [.int s2, .int s1, .ref (xad G p0)] m0 (fX3_setStates_51 (xln G) r15 q0 x2 x3 p0 s1 s2 m0) := by
  intro q0 x2 x3 p0 s1 s2 m0 hq0 hp0
  unfold fX3_setStates_51
  refine xj_iast F hp0 dX3_setStates_51 (fun m1 => ?_)
  refine xj_iinc F 2 1 (fun v2 => [(3, .int v2), (0, .ref (xad G q0)), (2, .int x2)]) dX3_setStates_52 rfl (by decide) (by decide) (fun _ => rfl) (fun v2 => ?_)
  refine xj_goto (tgt := 15) F dX3_setStates_55 (by decide) ?_
  refine xj_sub (lv' := [(0, .ref (xad G q0)), (2, .int x2), (3, .int v2)]) [1, 2, 0] rfl ?_
  exact hr15 q0 x2 v2 m1 hq0
set_option maxRecDepth 20000 in
set_option maxHeartbeats 4000000 in
theorem jX3_setStates_15 {G : XG} {l : Launch} {d : Nat} {X : XX} (F : xF (xE G d) G X mX3_setStates) (hdep : 2 ≤ d) : ∀ (n : Nat) (q0 : Nat) (x2 : Int32) (x3 : Int32) (m0 : XM), isa G q0 3 → xJ (xE G d) (xQ xrV G X mX3_setStates) G l X mX3_setStates 15 [(0, .ref (xad G q0)), (2, .int x2), (3, .int x3)] [] m0 (fX3_setStates_15 (xln G) n q0 x2 x3 m0) := by
  intro n
  induction n with
  | zero => intro q0 x2 x3 m0 hq0; exact xj_none
  | succ n hr15 =>
    intro q0 x2 x3 m0 hq0
    unfold fX3_setStates_15
    generalize hrg15 : (fun q0 x2 x3 m0 => fX3_setStates_15 (xln G) n q0 x2 x3 m0) = r15
    have hr15 : ∀ (q0 : Nat) (x2 : Int32) (x3 : Int32) (m0 : XM), isa G q0 3 → xJ (xE G d) (xQ xrV G X mX3_setStates) G l X mX3_setStates 15 [(0, .ref (xad G q0)), (2, .int x2), (3, .int x3)] [] m0 (r15 q0 x2 x3 m0) := by
      subst hrg15
      exact hr15
    clear hrg15
    refine xj_eq (xv_eq _ _) ?_
    refine xj_iload_n F 2 dX3_setStates_15 rfl ?_
    refine xj_bipush F 7 dX3_setStates_16 (by decide) ?_
    refine xj_icmp_ge (tgt := 58) F dX3_setStates_18 (by decide) ?_ ?_
    · exact xj_retV F rfl dX3_setStates_58
    · refine xj_iload_n F 1 dX3_setStates_21 rfl ?_
      refine xj_iconst F 3 dX3_setStates_22 (by decide) ?_
      refine xj_irem F dX3_setStates_23 (fun v1 => ?_)
      refine xj_istore (lv' := [(4, .int v1), (0, .ref (xad G q0)), (2, .int x2), (3, .int x3)]) F dX3_setStates_24 (by decide) rfl ?_
      refine xj_iload_n F 2 dX3_setStates_26 rfl ?_
      refine xj_iconst F 3 dX3_setStates_27 (by decide) ?_
      refine xj_idiv F dX3_setStates_28 (fun v2 => ?_)
      refine xj_istore_n (lv' := [(2, .int v2), (4, .int v1), (0, .ref (xad G q0)), (3, .int x3)]) F dX3_setStates_29 (by decide) rfl ?_
      refine xj_aload_n F 2 dX3_setStates_30 rfl ?_
      refine xj_getR F hq0 lgX3_15 dX3_setStates_31 (fun u3 hu3 => ?_)
      refine xj_getR F hu3 lgX3_95 dX3_setStates_34 (fun u4 hu4 => ?_)
      refine xj_iload_n F 3 dX3_setStates_37 rfl ?_
      refine xj_iload F 1 dX3_setStates_38 rfl ?_
      refine xj_if_ne (tgt := 47) F dX3_setStates_40 (by decide) ?_ ?_
      · refine xj_iload F 1 dX3_setStates_47 rfl ?_
        refine xj_iconst F 1 dX3_setStates_49 (by decide) ?_
        refine xj_iadd F dX3_setStates_50 (fun v5 => ?_)
        refine xj_sub (lv' := [(0, .ref (xad G q0)), (2, .int v2), (3, .int x3)]) [2, 0, 3] rfl ?_
        exact jX3_setStates_51 F hdep hr15 q0 v2 x3 u4 x3 v5 m0 hq0 hu4
      · refine xj_iconst F 0 dX3_setStates_43 (by decide) ?_
        refine xj_goto (tgt := 51) F dX3_setStates_44 (by decide) ?_
        refine xj_sub (lv' := [(0, .ref (xad G q0)), (2, .int v2), (3, .int x3)]) [2, 0, 3] rfl ?_
        exact jX3_setStates_51 F hdep hr15 q0 v2 x3 u4 x3 0 m0 hq0 hu4
set_option maxRecDepth 20000 in
set_option maxHeartbeats 4000000 in
theorem wX3_setStates {G : XG} {l : Launch} {d : Nat} (hn : xN G) (hdep : 2 ≤ d) {m0 : XM} (hT : xT G m0) {a0 : Nat} {a1 : Int32} (ha0 : isa G a0 3) : ∀ z, fX3_setStates (xln G) a0 a1 m0 = some z → xMet G l mX3_setStates d [.ref (xad G a0), .int a1] m0 (xrV z) := by
  refine xMet_of (by decide +kernel) hn hT (Nat.le_of_ble_eq_true rfl) (fun X F => ?_)
  refine xj_sub (lv' := [(0, .ref (xad G a0)), (1, .int a1)]) [0, 1] rfl ?_
  unfold fX3_setStates
  refine xj_aload_n F 0 dX3_setStates_0 rfl ?_
  refine xj_getR F ha0 lgX3_15 dX3_setStates_1 (fun u1 hu1 => ?_)
  refine xj_aload_n F 0 dX3_setStates_4 rfl ?_
  refine xj_getR F ha0 lgX3_9 dX3_setStates_5 (fun u2 hu2 => ?_)
  refine xj_callVV (b := u1) (As := [.ref (xad G u2)]) (d' := 1) F hu1 lmX3_91 rfl rfl (Nat.le_of_ble_eq_true rfl) (xfit (Nat.le_trans (Nat.le_of_ble_eq_true rfl) hdep)) dX3_setStates_8 (fun hT z hz => wX2_reset (xnd F) (Nat.le_refl _) hT (a0 := u1) (a1 := u2) hu1 hu2 z hz) (fun m3 => ?_)
  refine xj_iload_n F 1 dX3_setStates_11 rfl ?_
  refine xj_istore_n (lv' := [(2, .int a1), (0, .ref (xad G a0)), (1, .int a1)]) F dX3_setStates_12 (by decide) rfl ?_
  refine xj_iconst F 0 dX3_setStates_13 (by decide) ?_
  refine xj_istore_n (lv' := [(3, .int 0), (2, .int a1), (0, .ref (xad G a0)), (1, .int a1)]) F dX3_setStates_14 (by decide) rfl ?_
  refine xj_sub (lv' := [(0, .ref (xad G a0)), (2, .int a1), (3, .int 0)]) [2, 1, 0] rfl ?_
  exact jX3_setStates_15 F hdep XF a0 a1 0 m3 ha0
set_option maxRecDepth 20000 in
set_option maxHeartbeats 4000000 in
theorem jX3_leapDone_56 {G : XG} {l : Launch} {d : Nat} {X : XX} (F : xF (xE G d) G X mX3_leapDone) (hdep : 0 ≤ d) {r22 : Nat → Int32 → Int32 → XM → Option (Int64 × XM)} (hr22 : ∀ (q0 : Nat) (x2 : Int32) (x3 : Int32) (m0 : XM), isa G q0 3 → xJ (xE G d) (xQ xrL G X mX3_leapDone) G l X mX3_leapDone 22 [(0, .ref (xad G q0)), (2, .int x2), (3, .int x3)] [] m0 (r22 q0 x2 x3 m0)) : ∀ (q0 : Nat) (x3 : Int32) (s0 : Int32) (s1 : Int32) (m0 : XM), isa G q0 3 → xJ (xE G d) (xQ xrL G X mX3_leapDone) G l X mX3_leapDone 56 [(0, .ref (xad G q0)), (3, .int x3)] [.int s1, .int s0] m0 (fX3_leapDone_56 (xln G) r22 q0 x3 s0 s1 m0) := by
  intro q0 x3 s0 s1 m0 hq0
  unfold fX3_leapDone_56
  refine xj_iadd F dX3_leapDone_56 (fun v1 => ?_)
  refine xj_istore_n (lv' := [(2, .int v1), (0, .ref (xad G q0)), (3, .int x3)]) F dX3_leapDone_57 (by decide) rfl ?_
  refine xj_iinc F 2 (-1) (fun v2 => [(3, .int v2), (2, .int v1), (0, .ref (xad G q0))]) dX3_leapDone_58 rfl (by decide) (by decide) (fun _ => rfl) (fun v2 => ?_)
  refine xj_goto (tgt := 22) F dX3_leapDone_61 (by decide) ?_
  refine xj_sub (lv' := [(0, .ref (xad G q0)), (2, .int v1), (3, .int v2)]) [2, 1, 0] rfl ?_
  exact hr22 q0 v1 v2 m0 hq0
set_option maxRecDepth 20000 in
set_option maxHeartbeats 4000000 in
theorem jX3_leapDone_22 {G : XG} {l : Launch} {d : Nat} {X : XX} (F : xF (xE G d) G X mX3_leapDone) (hdep : 0 ≤ d) : ∀ (n : Nat) (q0 : Nat) (x2 : Int32) (x3 : Int32) (m0 : XM), isa G q0 3 → xJ (xE G d) (xQ xrL G X mX3_leapDone) G l X mX3_leapDone 22 [(0, .ref (xad G q0)), (2, .int x2), (3, .int x3)] [] m0 (fX3_leapDone_22 (xln G) n q0 x2 x3 m0) := by
  intro n
  induction n with
  | zero => intro q0 x2 x3 m0 hq0; exact xj_none
  | succ n hr22 =>
    intro q0 x2 x3 m0 hq0
    unfold fX3_leapDone_22
    generalize hrg22 : (fun q0 x2 x3 m0 => fX3_leapDone_22 (xln G) n q0 x2 x3 m0) = r22
    have hr22 : ∀ (q0 : Nat) (x2 : Int32) (x3 : Int32) (m0 : XM), isa G q0 3 → xJ (xE G d) (xQ xrL G X mX3_leapDone) G l X mX3_leapDone 22 [(0, .ref (xad G q0)), (2, .int x2), (3, .int x3)] [] m0 (r22 q0 x2 x3 m0) := by
      subst hrg22
      exact hr22
    clear hrg22
    refine xj_eq (xv_eq _ _) ?_
    refine xj_iload_n F 2 dX3_leapDone_22 rfl ?_
    refine xj_if_lt (tgt := 64) F dX3_leapDone_23 (by decide) ?_ ?_
    · refine xj_aload_n F 0 dX3_leapDone_64 rfl ?_
      refine xj_getR F hq0 lgX3_15 dX3_leapDone_65 (fun u1 hu1 => ?_)
      refine xj_get F hu1 lgX3_104 dX3_leapDone_68 (fun v2 => ?_)
      refine xj_i2l F dX3_leapDone_71 (fun w3 => ?_)
      refine xj_bipush F 24 dX3_leapDone_72 (by decide) ?_
      refine xj_lshl F dX3_leapDone_74 (fun w4 => ?_)
      refine xj_aload_n F 0 dX3_leapDone_75 rfl ?_
      refine xj_getR F hq0 lgX3_15 dX3_leapDone_76 (fun u5 hu5 => ?_)
      refine xj_get F hu5 lgX3_107 dX3_leapDone_79 (fun v6 => ?_)
      refine xj_i2l F dX3_leapDone_82 (fun w7 => ?_)
      refine xj_bipush F 12 dX3_leapDone_83 (by decide) ?_
      refine xj_lshl F dX3_leapDone_85 (fun w8 => ?_)
      refine xj_lor F dX3_leapDone_86 (fun w9 => ?_)
      refine xj_iload_n F 1 dX3_leapDone_87 rfl ?_
      refine xj_i2l F dX3_leapDone_88 (fun w10 => ?_)
      refine xj_lor F dX3_leapDone_89 (fun w11 => ?_)
      exact xj_retL F rfl dX3_leapDone_90
    · refine xj_iload_n F 1 dX3_leapDone_26 rfl ?_
      refine xj_iconst F 3 dX3_leapDone_27 (by decide) ?_
      refine xj_imul F dX3_leapDone_28 (fun v12 => ?_)
      refine xj_aload_n F 0 dX3_leapDone_29 rfl ?_
      refine xj_getR F hq0 lgX3_15 dX3_leapDone_30 (fun u13 hu13 => ?_)
      refine xj_getR F hu13 lgX3_95 dX3_leapDone_33 (fun u14 hu14 => ?_)
      refine xj_iload_n F 2 dX3_leapDone_36 rfl ?_
      refine xj_iald F hu14 dX3_leapDone_37 (fun v15 => ?_)
      refine xj_if_ne (tgt := 45) F dX3_leapDone_38 (by decide) ?_ ?_
      · refine xj_aload_n F 0 dX3_leapDone_45 rfl ?_
        refine xj_getR F hq0 lgX3_15 dX3_leapDone_46 (fun u16 hu16 => ?_)
        refine xj_getR F hu16 lgX3_95 dX3_leapDone_49 (fun u17 hu17 => ?_)
        refine xj_iload_n F 2 dX3_leapDone_52 rfl ?_
        refine xj_iald F hu17 dX3_leapDone_53 (fun v18 => ?_)
        refine xj_iconst F 1 dX3_leapDone_54 (by decide) ?_
        refine xj_isub F dX3_leapDone_55 (fun v19 => ?_)
        refine xj_sub (lv' := [(0, .ref (xad G q0)), (3, .int x3)]) [0, 2] rfl ?_
        exact jX3_leapDone_56 F hdep hr22 q0 x3 v12 v19 m0 hq0
      · refine xj_iconst F 0 dX3_leapDone_41 (by decide) ?_
        refine xj_goto (tgt := 56) F dX3_leapDone_42 (by decide) ?_
        refine xj_sub (lv' := [(0, .ref (xad G q0)), (3, .int x3)]) [0, 2] rfl ?_
        exact jX3_leapDone_56 F hdep hr22 q0 x3 v12 0 m0 hq0
set_option maxRecDepth 20000 in
set_option maxHeartbeats 4000000 in
theorem wX3_leapDone {G : XG} {l : Launch} {d : Nat} (hn : xN G) (hdep : 0 ≤ d) {m0 : XM} (hT : xT G m0) {a0 : Nat} {a1 : Int32} (ha0 : isa G a0 3) : ∀ z, fX3_leapDone (xln G) a0 a1 m0 = some z → xMet G l mX3_leapDone d [.ref (xad G a0), .int a1] m0 (xrL z) := by
  refine xMet_of (by decide +kernel) hn hT (Nat.le_of_ble_eq_true rfl) (fun X F => ?_)
  refine xj_sub (lv' := [(0, .ref (xad G a0)), (1, .int a1)]) [0, 1] rfl ?_
  unfold fX3_leapDone
  refine xj_aload_n F 0 dX3_leapDone_0 rfl ?_
  refine xj_getR F ha0 lgX3_15 dX3_leapDone_1 (fun u1 hu1 => ?_)
  refine xj_get F hu1 lgX3_99 dX3_leapDone_4 (fun v2 => ?_)
  refine xj_if_eq (tgt := 17) F dX3_leapDone_7 (by decide) ?_ ?_
  · refine xj_iconst F 0 dX3_leapDone_17 (by decide) ?_
    refine xj_istore_n (lv' := [(2, .int 0), (0, .ref (xad G a0)), (1, .int a1)]) F dX3_leapDone_18 (by decide) rfl ?_
    refine xj_bipush F 6 dX3_leapDone_19 (by decide) ?_
    refine xj_istore_n (lv' := [(3, .int 6), (2, .int 0), (0, .ref (xad G a0)), (1, .int a1)]) F dX3_leapDone_21 (by decide) rfl ?_
    refine xj_sub (lv' := [(0, .ref (xad G a0)), (2, .int 0), (3, .int 6)]) [2, 1, 0] rfl ?_
    exact jX3_leapDone_22 F hdep XF a0 0 6 m0 ha0
  · refine xj_ldc2 F lcX3_102 dX3_leapDone_10 ?_
    refine xj_iload_n F 1 dX3_leapDone_13 rfl ?_
    refine xj_i2l F dX3_leapDone_14 (fun w3 => ?_)
    refine xj_lor F dX3_leapDone_15 (fun w4 => ?_)
    exact xj_retL F rfl dX3_leapDone_16
set_option maxRecDepth 20000 in
set_option maxHeartbeats 4000000 in
theorem jX3_leapFrom_61 {G : XG} {l : Launch} {d : Nat} {X : XX} (F : xF (xE G d) G X mX3_leapFrom) (hdep : 203 ≤ d) : ∀ (q0 : Nat) (x3 : Int32) (m0 : XM), isa G q0 3 → xJ (xE G d) (xQ xrL G X mX3_leapFrom) G l X mX3_leapFrom 61 [(0, .ref (xad G q0)), (3, .int x3)] [] m0 (fX3_leapFrom_61 (xln G) q0 x3 m0) := by
  intro q0 x3 m0 hq0
  unfold fX3_leapFrom_61
  refine xj_aload_n F 0 dX3_leapFrom_61 rfl ?_
  refine xj_getR F hq0 lgX3_19 dX3_leapFrom_62 (fun u1 hu1 => ?_)
  refine xj_iload_n F 1 dX3_leapFrom_65 rfl ?_
  refine xj_lald F hu1 dX3_leapFrom_66 (fun v2 => ?_)
  exact xj_retL F rfl dX3_leapFrom_67
set_option maxRecDepth 20000 in
set_option maxHeartbeats 4000000 in
theorem jX3_leapFrom_50 {G : XG} {l : Launch} {d : Nat} {X : XX} (F : xF (xE G d) G X mX3_leapFrom) (hdep : 203 ≤ d) : ∀ (q0 : Nat) (x1 : Int32) (x3 : Int32) (m0 : XM), isa G q0 3 → xJ (xE G d) (xQ xrL G X mX3_leapFrom) G l X mX3_leapFrom 50 [(0, .ref (xad G q0)), (1, .int x1), (3, .int x3)] [] m0 (fX3_leapFrom_50 (xln G) q0 x1 x3 m0) := by
  intro q0 x1 x3 m0 hq0
  unfold fX3_leapFrom_50
  refine xj_aload_n F 0 dX3_leapFrom_50 rfl ?_
  refine xj_getR F hq0 lgX3_19 dX3_leapFrom_51 (fun u1 hu1 => ?_)
  refine xj_iload_n F 2 dX3_leapFrom_54 rfl ?_
  refine xj_aload_n F 0 dX3_leapFrom_55 rfl ?_
  refine xj_iload_n F 1 dX3_leapFrom_56 rfl ?_
  refine xj_callVL (b := q0) (As := [.int x1]) (d' := 0) F hq0 lmX3_87 rfl rfl (Nat.le_of_ble_eq_true rfl) (xfit (Nat.le_trans (Nat.le_of_ble_eq_true rfl) hdep)) dX3_leapFrom_57 (fun hT z hz => wX3_leapDone (xnd F) (Nat.le_refl _) hT (a0 := q0) (a1 := x1) hq0 z hz) (fun w3 m2 => ?_)
  refine xj_last F hu1 dX3_leapFrom_60 (fun m4 => ?_)
  refine xj_sub (lv' := [(0, .ref (xad G q0)), (3, .int x3)]) [0, 2] rfl ?_
  exact jX3_leapFrom_61 F hdep q0 x3 m4 hq0
set_option maxRecDepth 20000 in
set_option maxHeartbeats 4000000 in
theorem wX3_leapFrom {G : XG} {l : Launch} {d : Nat} (hn : xN G) (hdep : 203 ≤ d) {m0 : XM} (hT : xT G m0) {a0 : Nat} {a1 : Int32} {a2 : Int32} (ha0 : isa G a0 3) : ∀ z, fX3_leapFrom (xln G) a0 a1 a2 m0 = some z → xMet G l mX3_leapFrom d [.ref (xad G a0), .int a1, .int a2] m0 (xrL z) := by
  refine xMet_of (by decide +kernel) hn hT (Nat.le_of_ble_eq_true rfl) (fun X F => ?_)
  refine xj_sub (lv' := [(0, .ref (xad G a0)), (1, .int a1), (2, .int a2)]) [0, 1, 2] rfl ?_
  unfold fX3_leapFrom
  refine xj_iload_n F 1 dX3_leapFrom_0 rfl ?_
  refine xj_bipush F 8 dX3_leapFrom_1 (by decide) ?_
  refine xj_imul F dX3_leapFrom_3 (fun v1 => ?_)
  refine xj_iload_n F 2 dX3_leapFrom_4 rfl ?_
  refine xj_iadd F dX3_leapFrom_5 (fun v2 => ?_)
  refine xj_istore_n (lv' := [(3, .int v2), (0, .ref (xad G a0)), (1, .int a1), (2, .int a2)]) F dX3_leapFrom_6 (by decide) rfl ?_
  refine xj_aload_n F 1 dX3_leapFrom_7 rfl ?_
  refine xj_getR F ha0 lgX3_19 dX3_leapFrom_8 (fun u3 hu3 => ?_)
  refine xj_iload_n F 0 dX3_leapFrom_11 rfl ?_
  refine xj_lald F hu3 dX3_leapFrom_12 (fun v4 => ?_)
  refine xj_ldc2 F lcX3_27 dX3_leapFrom_13 ?_
  refine xj_lcmp F dX3_leapFrom_16 (fun v5 => ?_)
  refine xj_if_ne (tgt := 61) F dX3_leapFrom_17 (by decide) ?_ ?_
  · refine xj_sub (lv' := [(0, .ref (xad G a0)), (3, .int v2)]) [1, 0] rfl ?_
    exact jX3_leapFrom_61 F hdep a0 v2 m0 ha0
  · refine xj_aload_n F 1 dX3_leapFrom_20 rfl ?_
    refine xj_iload_n F 2 dX3_leapFrom_21 rfl ?_
    refine xj_callVV (b := a0) (As := [.int a1]) (d' := 2) F ha0 lmX3_74 rfl rfl (Nat.le_of_ble_eq_true rfl) (xfit (Nat.le_trans (Nat.le_of_ble_eq_true rfl) hdep)) dX3_leapFrom_22 (fun hT z hz => wX3_setStates (xnd F) (Nat.le_refl _) hT (a0 := a0) (a1 := a1) ha0 z hz) (fun m6 => ?_)
    refine xj_iload_n F 3 dX3_leapFrom_25 rfl ?_
    refine xj_bipush F 7 dX3_leapFrom_26 (by decide) ?_
    refine xj_icmp_ne (tgt := 41) F dX3_leapFrom_28 (by decide) ?_ ?_
    · refine xj_aload_n F 1 dX3_leapFrom_41 rfl ?_
      refine xj_getR F ha0 lgX3_15 dX3_leapFrom_42 (fun u7 hu7 => ?_)
      refine xj_iload_n F 3 dX3_leapFrom_45 rfl ?_
      refine xj_callVI (b := u7) (As := [.int a2]) (d' := 201) F hu7 lmX3_83 rfl rfl (Nat.le_of_ble_eq_true rfl) (xfit (Nat.le_trans (Nat.le_of_ble_eq_true rfl) hdep)) dX3_leapFrom_46 (fun hT z hz => (gwX2_touchUnit (xnd F) 200).1 hT hu7 a2 0 z hz) (fun v9 m8 => ?_)
      refine xj_pop F dX3_leapFrom_49 rfl ?_
      refine xj_sub (lv' := [(0, .ref (xad G a0)), (1, .int a1), (3, .int v2)]) [1, 2, 0] rfl ?_
      exact jX3_leapFrom_50 F hdep a0 a1 v2 m8 ha0
    · refine xj_aload_n F 1 dX3_leapFrom_31 rfl ?_
      refine xj_getR F ha0 lgX3_15 dX3_leapFrom_32 (fun u10 hu10 => ?_)
      refine xj_callVV (b := u10) (As := []) (d' := 202) F hu10 lmX3_78 rfl rfl (Nat.le_of_ble_eq_true rfl) (xfit (Nat.le_trans (Nat.le_of_ble_eq_true rfl) hdep)) dX3_leapFrom_35 (fun hT z hz => wX2_runMain (xnd F) (Nat.le_refl _) hT (a0 := u10) hu10 z hz) (fun m11 => ?_)
      refine xj_goto (tgt := 50) F dX3_leapFrom_38 (by decide) ?_
      refine xj_sub (lv' := [(0, .ref (xad G a0)), (1, .int a1), (3, .int v2)]) [1, 2, 0] rfl ?_
      exact jX3_leapFrom_50 F hdep a0 a1 v2 m11 ha0
set_option maxRecDepth 20000 in
set_option maxHeartbeats 4000000 in
theorem wX3_workOf {G : XG} {l : Launch} {d : Nat} (hn : xN G) (hdep : 0 ≤ d) {m0 : XM} (hT : xT G m0) {a0 : Nat} {a1 : Int64} (ha0 : isa G a0 3) : ∀ z, fX3_workOf (xln G) a0 a1 m0 = some z → xMet G l mX3_workOf d [.ref (xad G a0), .long a1] m0 (xrI z) := by
  refine xMet_of (by decide +kernel) hn hT (Nat.le_of_ble_eq_true rfl) (fun X F => ?_)
  refine xj_sub (lv' := [(0, .ref (xad G a0)), (1, .long a1)]) [0, 1] rfl ?_
  unfold fX3_workOf
  refine xj_lload_n F 1 dX3_workOf_0 rfl ?_
  refine xj_bipush F 12 dX3_workOf_1 (by decide) ?_
  refine xj_lshr F dX3_workOf_3 (fun w1 => ?_)
  refine xj_l2i F dX3_workOf_4 (fun v2 => ?_)
  refine xj_sipush F 4095 dX3_workOf_5 (by decide) ?_
  refine xj_iand F dX3_workOf_8 (fun v3 => ?_)
  exact xj_ret F rfl dX3_workOf_9
set_option maxRecDepth 20000 in
set_option maxHeartbeats 4000000 in
theorem wX3_sumUp {G : XG} {l : Launch} {d : Nat} (hn : xN G) (hdep : 1 ≤ d) {m0 : XM} (hT : xT G m0) {a0 : Nat} {a1 : Int32} {a2 : Int32} {a3 : Int64} (ha0 : isa G a0 3) : ∀ z, fX3_sumUp (xln G) a0 a1 a2 a3 m0 = some z → xMet G l mX3_sumUp d [.ref (xad G a0), .int a1, .int a2, .long a3] m0 (xrI z) := by
  refine xMet_of (by decide +kernel) hn hT (Nat.le_of_ble_eq_true rfl) (fun X F => ?_)
  refine xj_sub (lv' := [(0, .ref (xad G a0)), (1, .int a1), (2, .int a2), (3, .long a3)]) [0, 1, 2, 3] rfl ?_
  unfold fX3_sumUp
  refine xj_iload_n F 2 dX3_sumUp_0 rfl ?_
  refine xj_aload_n F 0 dX3_sumUp_1 rfl ?_
  refine xj_lload_n F 3 dX3_sumUp_2 rfl ?_
  refine xj_callVI (b := a0) (As := [.long a3]) (d' := 0) F ha0 lmX3_71 rfl rfl (Nat.le_of_ble_eq_true rfl) (xfit (Nat.le_trans (Nat.le_of_ble_eq_true rfl) hdep)) dX3_sumUp_3 (fun hT z hz => wX3_workOf (xnd F) (Nat.le_refl _) hT (a0 := a0) (a1 := a3) ha0 z hz) (fun v2 m1 => ?_)
  refine xj_iadd F dX3_sumUp_6 (fun v3 => ?_)
  refine xj_sipush F 3000 dX3_sumUp_7 (by decide) ?_
  refine xj_icmp_le (tgt := 18) F dX3_sumUp_10 (by decide) ?_ ?_
  · refine xj_iload_n F 1 dX3_sumUp_18 rfl ?_
    refine xj_lload_n F 3 dX3_sumUp_19 rfl ?_
    refine xj_bipush F 24 dX3_sumUp_20 (by decide) ?_
    refine xj_lshr F dX3_sumUp_22 (fun w4 => ?_)
    refine xj_l2i F dX3_sumUp_23 (fun v5 => ?_)
    refine xj_iadd F dX3_sumUp_24 (fun v6 => ?_)
    exact xj_ret F rfl dX3_sumUp_25
  · refine xj_ldc F lcX3_35 dX3_sumUp_13 ?_
    refine xj_goto (tgt := 25) F dX3_sumUp_15 (by decide) ?_
    exact xj_ret F rfl dX3_sumUp_25
set_option maxRecDepth 20000 in
set_option maxHeartbeats 4000000 in
theorem jX3_countOrder_39 {G : XG} {l : Launch} {d : Nat} {X : XX} (F : xF (xE G d) G X mX3_countOrder) (hdep : 0 ≤ d) : ∀ (q0 : Nat) (m0 : XM), isa G q0 3 → xJ (xE G d) (xQ xrV G X mX3_countOrder) G l X mX3_countOrder 39 [(0, .ref (xad G q0))] [] m0 (fX3_countOrder_39 (xln G) q0 m0) := by
  intro q0 m0 hq0
  unfold fX3_countOrder_39
  refine xj_aload_n F 0 dX3_countOrder_39 rfl ?_
  refine xj_dup F dX3_countOrder_40 rfl ?_
  refine xj_get F hq0 lgX3_43 dX3_countOrder_41 (fun v1 => ?_)
  refine xj_iconst F 1 dX3_countOrder_44 (by decide) ?_
  refine xj_iadd F dX3_countOrder_45 (fun v2 => ?_)
  refine xj_put F hq0 lpX3_43 dX3_countOrder_46 (fun m3 => ?_)
  exact xj_retV F rfl dX3_countOrder_49
set_option maxRecDepth 20000 in
set_option maxHeartbeats 4000000 in
theorem jX3_countOrder_24 {G : XG} {l : Launch} {d : Nat} {X : XX} (F : xF (xE G d) G X mX3_countOrder) (hdep : 0 ≤ d) : ∀ (q0 : Nat) (x1 : Int32) (x2 : Int32) (m0 : XM), isa G q0 3 → xJ (xE G d) (xQ xrV G X mX3_countOrder) G l X mX3_countOrder 24 [(0, .ref (xad G q0)), (1, .int x1), (2, .int x2)] [] m0 (fX3_countOrder_24 (xln G) q0 x1 x2 m0) := by
  intro q0 x1 x2 m0 hq0
  unfold fX3_countOrder_24
  refine xj_aload_n F 0 dX3_countOrder_24 rfl ?_
  refine xj_iload_n F 1 dX3_countOrder_25 rfl ?_
  refine xj_put F hq0 lpX3_36 dX3_countOrder_26 (fun m1 => ?_)
  refine xj_aload_n F 0 dX3_countOrder_29 rfl ?_
  refine xj_iload_n F 2 dX3_countOrder_30 rfl ?_
  refine xj_put F hq0 lpX3_40 dX3_countOrder_31 (fun m2 => ?_)
  refine xj_aload_n F 0 dX3_countOrder_34 rfl ?_
  refine xj_iconst F 0 dX3_countOrder_35 (by decide) ?_
  refine xj_put F hq0 lpX3_43 dX3_countOrder_36 (fun m3 => ?_)
  refine xj_sub (lv' := [(0, .ref (xad G q0))]) [0] rfl ?_
  exact jX3_countOrder_39 F hdep q0 m3 hq0
set_option maxRecDepth 20000 in
set_option maxHeartbeats 4000000 in
theorem wX3_countOrder {G : XG} {l : Launch} {d : Nat} (hn : xN G) (hdep : 0 ≤ d) {m0 : XM} (hT : xT G m0) {a0 : Nat} {a1 : Int32} {a2 : Int32} (ha0 : isa G a0 3) : ∀ z, fX3_countOrder (xln G) a0 a1 a2 m0 = some z → xMet G l mX3_countOrder d [.ref (xad G a0), .int a1, .int a2] m0 (xrV z) := by
  refine xMet_of (by decide +kernel) hn hT (Nat.le_of_ble_eq_true rfl) (fun X F => ?_)
  refine xj_sub (lv' := [(0, .ref (xad G a0)), (1, .int a1), (2, .int a2)]) [0, 1, 2] rfl ?_
  unfold fX3_countOrder
  refine xj_iload_n F 1 dX3_countOrder_0 rfl ?_
  refine xj_aload_n F 0 dX3_countOrder_1 rfl ?_
  refine xj_get F ha0 lgX3_36 dX3_countOrder_2 (fun v1 => ?_)
  refine xj_icmp_le (tgt := 9) F dX3_countOrder_5 (by decide) ?_ ?_
  · refine xj_iload_n F 1 dX3_countOrder_9 rfl ?_
    refine xj_aload_n F 0 dX3_countOrder_10 rfl ?_
    refine xj_get F ha0 lgX3_36 dX3_countOrder_11 (fun v2 => ?_)
    refine xj_icmp_lt (tgt := 24) F dX3_countOrder_14 (by decide) ?_ ?_
    · exact jX3_countOrder_24 F hdep a0 a1 a2 m0 ha0
    · refine xj_aload_n F 0 dX3_countOrder_17 rfl ?_
      refine xj_get F ha0 lgX3_43 dX3_countOrder_18 (fun v3 => ?_)
      refine xj_if_ne (tgt := 39) F dX3_countOrder_21 (by decide) ?_ ?_
      · refine xj_sub (lv' := [(0, .ref (xad G a0))]) [0] rfl ?_
        exact jX3_countOrder_39 F hdep a0 m0 ha0
      · exact jX3_countOrder_24 F hdep a0 a1 a2 m0 ha0
  · exact xj_retV F rfl dX3_countOrder_8
set_option maxRecDepth 20000 in
set_option maxHeartbeats 4000000 in
theorem wX3_lookOf {G : XG} {l : Launch} {d : Nat} (hn : xN G) (hdep : 0 ≤ d) {m0 : XM} (hT : xT G m0) {a0 : Nat} {a1 : Int64} (ha0 : isa G a0 3) : ∀ z, fX3_lookOf (xln G) a0 a1 m0 = some z → xMet G l mX3_lookOf d [.ref (xad G a0), .long a1] m0 (xrI z) := by
  refine xMet_of (by decide +kernel) hn hT (Nat.le_of_ble_eq_true rfl) (fun X F => ?_)
  refine xj_sub (lv' := [(0, .ref (xad G a0)), (1, .long a1)]) [0, 1] rfl ?_
  unfold fX3_lookOf
  refine xj_lload_n F 1 dX3_lookOf_0 rfl ?_
  refine xj_l2i F dX3_lookOf_1 (fun v1 => ?_)
  refine xj_sipush F 4095 dX3_lookOf_2 (by decide) ?_
  refine xj_iand F dX3_lookOf_5 (fun v2 => ?_)
  exact xj_ret F rfl dX3_lookOf_6
set_option maxRecDepth 20000 in
set_option maxHeartbeats 4000000 in
theorem jX3_goOn_120 {G : XG} {l : Launch} {d : Nat} {X : XX} (F : xF (xE G d) G X mX3_goOn) (hdep : 204 ≤ d) {e : Nat} {R : Nat → Nat → Int32 → Int32 → Int32 → Int32 → Int32 → XM → Option (Int32 × XM)} (hge : e + 203 + 1 ≤ d) (hR0 : ∀ {m0 : XM}, xT G m0 → ∀ {q : Nat}, isa G q 3 → ∀ (x0 x1 x2 x3 x4 : Int32) (z : Int32 × XM), R 0 q x0 x1 x2 x3 x4 m0 = some z → xMet G l mX3_goOn (e + 203) [.ref (xad G q), .int x0, .int x1, .int x2, .int x3, .int x4] m0 (xrV z.2)) {r49 : Nat → Int32 → Int32 → Int32 → Int32 → Int32 → Int32 → XM → Option XM} (hr49 : ∀ (q0 : Nat) (x1 : Int32) (x2 : Int32) (x3 : Int32) (x4 : Int32) (x5 : Int32) (x6 : Int32) (m0 : XM), isa G q0 3 → xJ (xE G d) (xQ xrV G X mX3_goOn) G l X mX3_goOn 49 [(0, .ref (xad G q0)), (1, .int x1), (2, .int x2), (3, .int x3), (4, .int x4), (5, .int x5), (6, .int x6)] [] m0 (r49 q0 x1 x2 x3 x4 x5 x6 m0)) : ∀ (q0 : Nat) (x1 : Int32) (x2 : Int32) (x3 : Int32) (x4 : Int32) (x5 : Int32) (x6 : Int32) (m0 : XM), isa G q0 3 → xJ (xE G d) (xQ xrV G X mX3_goOn) G l X mX3_goOn 120 [(0, .ref (xad G q0)), (1, .int x1), (2, .int x2), (3, .int x3), (4, .int x4), (5, .int x5), (6, .int x6)] [] m0 (fX3_goOn_120 (xln G) R r49 q0 x1 x2 x3 x4 x5 x6 m0) := by
  intro q0 x1 x2 x3 x4 x5 x6 m0 hq0
  unfold fX3_goOn_120
  refine xj_iinc F 6 1 (fun v1 => [(6, .int v1), (0, .ref (xad G q0)), (1, .int x1), (2, .int x2), (3, .int x3), (4, .int x4), (5, .int x5)]) dX3_goOn_120 rfl (by decide) (by decide) (fun _ => rfl) (fun v1 => ?_)
  refine xj_goto (tgt := 49) F dX3_goOn_123 (by decide) ?_
  refine xj_sub (lv' := [(0, .ref (xad G q0)), (1, .int x1), (2, .int x2), (3, .int x3), (4, .int x4), (5, .int x5), (6, .int v1)]) [1, 2, 3, 4, 5, 6, 0] rfl ?_
  exact hr49 q0 x1 x2 x3 x4 x5 v1 m0 hq0
set_option maxRecDepth 20000 in
set_option maxHeartbeats 4000000 in
theorem jX3_goOn_49 {G : XG} {l : Launch} {d : Nat} {X : XX} (F : xF (xE G d) G X mX3_goOn) (hdep : 204 ≤ d) {e : Nat} {R : Nat → Nat → Int32 → Int32 → Int32 → Int32 → Int32 → XM → Option (Int32 × XM)} (hge : e + 203 + 1 ≤ d) (hR0 : ∀ {m0 : XM}, xT G m0 → ∀ {q : Nat}, isa G q 3 → ∀ (x0 x1 x2 x3 x4 : Int32) (z : Int32 × XM), R 0 q x0 x1 x2 x3 x4 m0 = some z → xMet G l mX3_goOn (e + 203) [.ref (xad G q), .int x0, .int x1, .int x2, .int x3, .int x4] m0 (xrV z.2)) : ∀ (n : Nat) (q0 : Nat) (x1 : Int32) (x2 : Int32) (x3 : Int32) (x4 : Int32) (x5 : Int32) (x6 : Int32) (m0 : XM), isa G q0 3 → xJ (xE G d) (xQ xrV G X mX3_goOn) G l X mX3_goOn 49 [(0, .ref (xad G q0)), (1, .int x1), (2, .int x2), (3, .int x3), (4, .int x4), (5, .int x5), (6, .int x6)] [] m0 (fX3_goOn_49 (xln G) R n q0 x1 x2 x3 x4 x5 x6 m0) := by
  intro n
  induction n with
  | zero => intro q0 x1 x2 x3 x4 x5 x6 m0 hq0; exact xj_none
  | succ n hr49 =>
    intro q0 x1 x2 x3 x4 x5 x6 m0 hq0
    unfold fX3_goOn_49
    generalize hrg49 : (fun q0 x1 x2 x3 x4 x5 x6 m0 => fX3_goOn_49 (xln G) R n q0 x1 x2 x3 x4 x5 x6 m0) = r49
    have hr49 : ∀ (q0 : Nat) (x1 : Int32) (x2 : Int32) (x3 : Int32) (x4 : Int32) (x5 : Int32) (x6 : Int32) (m0 : XM), isa G q0 3 → xJ (xE G d) (xQ xrV G X mX3_goOn) G l X mX3_goOn 49 [(0, .ref (xad G q0)), (1, .int x1), (2, .int x2), (3, .int x3), (4, .int x4), (5, .int x5), (6, .int x6)] [] m0 (r49 q0 x1 x2 x3 x4 x5 x6 m0) := by
      subst hrg49
      exact hr49
    clear hrg49
    refine xj_eq (xv_eq _ _) ?_
    refine xj_iload F 6 dX3_goOn_49 rfl ?_
    refine xj_aload_n F 0 dX3_goOn_51 rfl ?_
    refine xj_getR F hq0 lgX3_9 dX3_goOn_52 (fun u1 hu1 => ?_)
    refine xj_get F hu1 lgX3_50 dX3_goOn_55 (fun v2 => ?_)
    refine xj_icmp_ge (tgt := 126) F dX3_goOn_58 (by decide) ?_ ?_
    · exact xj_retV F rfl dX3_goOn_126
    · refine xj_iload_n F 1 dX3_goOn_61 rfl ?_
      refine xj_iload F 6 dX3_goOn_62 rfl ?_
      refine xj_ishr F dX3_goOn_64 (fun v3 => ?_)
      refine xj_iconst F 1 dX3_goOn_65 (by decide) ?_
      refine xj_iand F dX3_goOn_66 (fun v4 => ?_)
      refine xj_if_ne (tgt := 120) F dX3_goOn_67 (by decide) ?_ ?_
      · exact jX3_goOn_120 F hdep hge hR0 hr49 q0 x1 x2 x3 x4 x5 x6 m0 hq0
      · refine xj_aload_n F 0 dX3_goOn_70 rfl ?_
        refine xj_iload_n F 2 dX3_goOn_71 rfl ?_
        refine xj_iload F 6 dX3_goOn_72 rfl ?_
        refine xj_callVL (b := q0) (As := [.int x2, .int x6]) (d' := 203) F hq0 lmX3_55 rfl rfl (Nat.le_of_ble_eq_true rfl) (xfit (Nat.le_trans (Nat.le_of_ble_eq_true rfl) hdep)) dX3_goOn_74 (fun hT z hz => wX3_leapFrom (xnd F) (Nat.le_refl _) hT (a0 := q0) (a1 := x2) (a2 := x6) hq0 z hz) (fun w6 m5 => ?_)
        refine xj_lstore (lv' := [(7, .long w6), (0, .ref (xad G q0)), (1, .int x1), (2, .int x2), (3, .int x3), (4, .int x4), (5, .int x5), (6, .int x6)]) F dX3_goOn_77 (by decide) rfl ?_
        refine xj_aload_n F 1 dX3_goOn_79 rfl ?_
        refine xj_iload_n F 2 dX3_goOn_80 rfl ?_
        refine xj_iconst F 1 dX3_goOn_81 (by decide) ?_
        refine xj_iload F 7 dX3_goOn_82 rfl ?_
        refine xj_ishl F dX3_goOn_84 (fun v7 => ?_)
        refine xj_ior F dX3_goOn_85 (fun v8 => ?_)
        refine xj_aload_n F 1 dX3_goOn_86 rfl ?_
        refine xj_lload F 0 dX3_goOn_87 rfl ?_
        refine xj_callVI (b := q0) (As := [.long w6]) (d' := 0) F hq0 lmX3_67 rfl rfl (Nat.le_of_ble_eq_true rfl) (xfit (Nat.le_trans (Nat.le_of_ble_eq_true rfl) hdep)) dX3_goOn_89 (fun hT z hz => wX3_lookOf (xnd F) (Nat.le_refl _) hT (a0 := q0) (a1 := w6) hq0 z hz) (fun v10 m9 => ?_)
        refine xj_iload_n F 4 dX3_goOn_92 rfl ?_
        refine xj_aload_n F 1 dX3_goOn_93 rfl ?_
        refine xj_lload F 0 dX3_goOn_94 rfl ?_
        refine xj_callVI (b := q0) (As := [.long w6]) (d' := 0) F hq0 lmX3_71 rfl rfl (Nat.le_of_ble_eq_true rfl) (xfit (Nat.le_trans (Nat.le_of_ble_eq_true rfl) hdep)) dX3_goOn_96 (fun hT z hz => wX3_workOf (xnd F) (Nat.le_refl _) hT (a0 := q0) (a1 := w6) hq0 z hz) (fun v12 m11 => ?_)
        refine xj_iadd F dX3_goOn_99 (fun v13 => ?_)
        refine xj_aload_n F 1 dX3_goOn_100 rfl ?_
        refine xj_iload F 5 dX3_goOn_101 rfl ?_
        refine xj_iload_n F 4 dX3_goOn_103 rfl ?_
        refine xj_lload F 0 dX3_goOn_104 rfl ?_
        refine xj_callVI (b := q0) (As := [.int x4, .int x3, .long w6]) (d' := 1) F hq0 lmX3_59 rfl rfl (Nat.le_of_ble_eq_true rfl) (xfit (Nat.le_trans (Nat.le_of_ble_eq_true rfl) hdep)) dX3_goOn_106 (fun hT z hz => wX3_sumUp (xnd F) (Nat.le_refl _) hT (a0 := q0) (a1 := x4) (a2 := x3) (a3 := w6) hq0 z hz) (fun v15 m14 => ?_)
        refine xj_iload F 6 dX3_goOn_109 rfl ?_
        refine xj_bipush F 10 dX3_goOn_111 (by decide) ?_
        refine xj_imul F dX3_goOn_113 (fun v16 => ?_)
        refine xj_iload F 7 dX3_goOn_114 rfl ?_
        refine xj_iadd F dX3_goOn_116 (fun v17 => ?_)
        refine xj_callVV (b := q0) (As := [.int v8, .int v10, .int v13, .int v15, .int v17]) (d' := e + 203) F hq0 lmX3_46 rfl rfl (Nat.le_of_ble_eq_true rfl) (xfit hge) dX3_goOn_117 (fun hT => xvR (P := fun w => xMet G l mX3_goOn (e + 203) (.ref (xad G q0) :: [.int v8, .int v10, .int v13, .int v15, .int v17]) _ w) (fun z hz => hR0 hT hq0 v8 v10 v13 v15 v17 z hz)) (fun m18 => ?_)
        refine xj_sub (lv' := [(0, .ref (xad G q0)), (1, .int x1), (2, .int x2), (3, .int x3), (4, .int x4), (5, .int x5), (6, .int x6)]) [1, 2, 3, 4, 5, 6, 7] rfl ?_
        exact jX3_goOn_120 F hdep hge hR0 hr49 q0 x1 x2 x3 x4 x5 x6 m18 hq0
set_option maxRecDepth 20000 in
set_option maxHeartbeats 4000000 in
theorem wX3_goOn {G : XG} {l : Launch} {d : Nat} (hn : xN G) (hdep : 204 ≤ d) {e : Nat} {R : Nat → Nat → Int32 → Int32 → Int32 → Int32 → Int32 → XM → Option (Int32 × XM)} (hge : e + 203 + 1 ≤ d) (hR0 : ∀ {m0 : XM}, xT G m0 → ∀ {q : Nat}, isa G q 3 → ∀ (x0 x1 x2 x3 x4 : Int32) (z : Int32 × XM), R 0 q x0 x1 x2 x3 x4 m0 = some z → xMet G l mX3_goOn (e + 203) [.ref (xad G q), .int x0, .int x1, .int x2, .int x3, .int x4] m0 (xrV z.2)) {m0 : XM} (hT : xT G m0) {a0 : Nat} {a1 : Int32} {a2 : Int32} {a3 : Int32} {a4 : Int32} {a5 : Int32} (ha0 : isa G a0 3) : ∀ z, fX3_goOn (xln G) R a0 a1 a2 a3 a4 a5 m0 = some z → xMet G l mX3_goOn d [.ref (xad G a0), .int a1, .int a2, .int a3, .int a4, .int a5] m0 (xrV z) := by
  refine xMet_of (by decide +kernel) hn hT (Nat.le_of_ble_eq_true rfl) (fun X F => ?_)
  refine xj_sub (lv' := [(0, .ref (xad G a0)), (1, .int a1), (2, .int a2), (3, .int a3), (4, .int a4), (5, .int a5)]) [0, 1, 2, 3, 4, 5] rfl ?_
  unfold fX3_goOn
  refine xj_iload F 4 dX3_goOn_0 rfl ?_
  refine xj_aload_n F 0 dX3_goOn_2 rfl ?_
  refine xj_get F ha0 lgX3_36 dX3_goOn_3 (fun v1 => ?_)
  refine xj_icmp_le (tgt := 10) F dX3_goOn_6 (by decide) ?_ ?_
  · refine xj_iload_n F 1 dX3_goOn_10 rfl ?_
    refine xj_iconst F 1 dX3_goOn_11 (by decide) ?_
    refine xj_aload_n F 0 dX3_goOn_12 rfl ?_
    refine xj_getR F ha0 lgX3_9 dX3_goOn_13 (fun u2 hu2 => ?_)
    refine xj_get F hu2 lgX3_50 dX3_goOn_16 (fun v3 => ?_)
    refine xj_ishl F dX3_goOn_19 (fun v4 => ?_)
    refine xj_iconst F 1 dX3_goOn_20 (by decide) ?_
    refine xj_isub F dX3_goOn_21 (fun v5 => ?_)
    refine xj_icmp_ne (tgt := 46) F dX3_goOn_22 (by decide) ?_ ?_
    · refine xj_iconst F 0 dX3_goOn_46 (by decide) ?_
      refine xj_istore (lv' := [(6, .int 0), (0, .ref (xad G a0)), (1, .int a1), (2, .int a2), (3, .int a3), (4, .int a4), (5, .int a5)]) F dX3_goOn_47 (by decide) rfl ?_
      refine xj_sub (lv' := [(0, .ref (xad G a0)), (1, .int a1), (2, .int a2), (3, .int a3), (4, .int a4), (5, .int a5), (6, .int 0)]) [1, 2, 3, 4, 5, 6, 0] rfl ?_
      exact jX3_goOn_49 F hdep hge hR0 XF a0 a1 a2 a3 a4 a5 0 m0 ha0
    · refine xj_aload_n F 0 dX3_goOn_25 rfl ?_
      refine xj_aload_n F 0 dX3_goOn_26 rfl ?_
      refine xj_iload F 4 dX3_goOn_27 rfl ?_
      refine xj_iload_n F 3 dX3_goOn_29 rfl ?_
      refine xj_aload_n F 0 dX3_goOn_30 rfl ?_
      refine xj_iload_n F 2 dX3_goOn_31 rfl ?_
      refine xj_bipush F 7 dX3_goOn_32 (by decide) ?_
      refine xj_callVL (b := a0) (As := [.int a2, .int 7]) (d' := 203) F ha0 lmX3_55 rfl rfl (Nat.le_of_ble_eq_true rfl) (xfit (Nat.le_trans (Nat.le_of_ble_eq_true rfl) hdep)) dX3_goOn_34 (fun hT z hz => wX3_leapFrom (xnd F) (Nat.le_refl _) hT (a0 := a0) (a1 := a2) (a2 := 7) ha0 z hz) (fun w7 m6 => ?_)
      refine xj_callVI (b := a0) (As := [.int a4, .int a3, .long w7]) (d' := 1) F ha0 lmX3_59 rfl rfl (Nat.le_of_ble_eq_true rfl) (xfit (Nat.le_trans (Nat.le_of_ble_eq_true rfl) hdep)) dX3_goOn_37 (fun hT z hz => wX3_sumUp (xnd F) (Nat.le_refl _) hT (a0 := a0) (a1 := a4) (a2 := a3) (a3 := w7) ha0 z hz) (fun v9 m8 => ?_)
      refine xj_iload F 5 dX3_goOn_40 rfl ?_
      refine xj_callVV (b := a0) (As := [.int v9, .int a5]) (d' := 0) F ha0 lmX3_63 rfl rfl (Nat.le_of_ble_eq_true rfl) (xfit (Nat.le_trans (Nat.le_of_ble_eq_true rfl) hdep)) dX3_goOn_42 (fun hT z hz => wX3_countOrder (xnd F) (Nat.le_refl _) hT (a0 := a0) (a1 := v9) (a2 := a5) ha0 z hz) (fun m10 => ?_)
      exact xj_retV F rfl dX3_goOn_45
  · exact xj_retV F rfl dX3_goOn_9
set_option maxRecDepth 20000 in
set_option maxHeartbeats 4000000 in
theorem gwX3_goOn {G : XG} {l : Launch} (hn : xN G) : ∀ (e : Nat), (∀ {m0 : XM}, xT G m0 → ∀ {q : Nat}, isa G q 3 → ∀ (x0 x1 x2 x3 x4 : Int32) (z : Int32 × XM), gX3_goOn (xln G) e 0 q x0 x1 x2 x3 x4 m0 = some z → xMet G l mX3_goOn (e + 203) [.ref (xad G q), .int x0, .int x1, .int x2, .int x3, .int x4] m0 (xrV z.2)) := by
  intro e
  induction e with
  | zero => exact (by intro m0 hT q hq x0 x1 x2 x3 x4 z hz; unfold gX3_goOn at hz; cases hz)
  | succ e ih =>
    generalize hRg : (fun t q x0 x1 x2 x3 x4 m0 => gX3_goOn (xln G) e t q x0 x1 x2 x3 x4 m0) = R
    have hR0 : ∀ {m0 : XM}, xT G m0 → ∀ {q : Nat}, isa G q 3 → ∀ (x0 x1 x2 x3 x4 : Int32) (z : Int32 × XM), R 0 q x0 x1 x2 x3 x4 m0 = some z → xMet G l mX3_goOn (e + 203) [.ref (xad G q), .int x0, .int x1, .int x2, .int x3, .int x4] m0 (xrV z.2) := by
      subst hRg
      exact ih
    have p0 : ∀ {m0 : XM}, xT G m0 → ∀ {q : Nat}, isa G q 3 → ∀ (x0 x1 x2 x3 x4 : Int32) (z : Int32 × XM), gX3_goOn (xln G) (e + 1) 0 q x0 x1 x2 x3 x4 m0 = some z → xMet G l mX3_goOn (e + 1 + 203) [.ref (xad G q), .int x0, .int x1, .int x2, .int x3, .int x4] m0 (xrV z.2) := by
      intro m0 hT q hq x0 x1 x2 x3 x4 z hz
      unfold gX3_goOn at hz
      rw [hRg] at hz
      have hz := hz
      simp only [xv, if_pos (show 0 = 0 from rfl)] at hz
      exact xvW (P := fun w => xMet G l mX3_goOn (e + 1 + 203) _ m0 w) (fun z hz => wX3_goOn hn (by omega) (e := e) (R := R) (by omega) hR0 hT (a0 := q) (a1 := x0) (a2 := x1) (a3 := x2) (a4 := x3) (a5 := x4) hq z hz) z hz
    exact @p0
set_option maxRecDepth 20000 in
set_option maxHeartbeats 4000000 in
theorem wX3_seekFewest {G : XG} {l : Launch} {d : Nat} (hn : xN G) (hdep : 224 ≤ d) {m0 : XM} (hT : xT G m0) {a0 : Nat} {a1 : Nat} (ha0 : isa G a0 3) (ha1 : isa G a1 6) : ∀ z, fX3_seekFewest (xln G) a0 a1 m0 = some z → xMet G l mX3_seekFewest d [.ref (xad G a0), .ref (xad G a1)] m0 (xrV z) := by
  refine xMet_of (by decide +kernel) hn hT (Nat.le_of_ble_eq_true rfl) (fun X F => ?_)
  refine xj_sub (lv' := [(0, .ref (xad G a0)), (1, .ref (xad G a1))]) [0, 1] rfl ?_
  unfold fX3_seekFewest
  refine xj_aload_n F 0 dX3_seekFewest_0 rfl ?_
  refine xj_get F ha0 lgX3_23 dX3_seekFewest_1 (fun v1 => ?_)
  refine xj_if_eq (tgt := 8) F dX3_seekFewest_4 (by decide) ?_ ?_
  · refine xj_aload_n F 0 dX3_seekFewest_8 rfl ?_
    refine xj_aload_n F 1 dX3_seekFewest_9 rfl ?_
    refine xj_putR F ha0 lpX3_9 ha1 dX3_seekFewest_10 (fun m2 => ?_)
    refine xj_aload_n F 0 dX3_seekFewest_13 rfl ?_
    refine xj_getR F ha0 lgX3_19 dX3_seekFewest_14 (fun u3 hu3 => ?_)
    refine xj_ldc2 F lcX3_27 dX3_seekFewest_17 ?_
    refine xj_callSV (As := [.ref (xad G u3), .long (-1)]) (d' := 0) F lmX3_29 rfl rfl (Nat.le_of_ble_eq_true rfl) (xfit (Nat.le_trans (Nat.le_of_ble_eq_true rfl) hdep)) dX3_seekFewest_20 (fun hT z hz => wJ7_fill_d0a16 (xnd F) (Nat.le_refl _) hT (a0 := u3) (a1 := (-1)) hu3 z hz) (fun m4 => ?_)
    refine xj_aload_n F 0 dX3_seekFewest_23 rfl ?_
    refine xj_ldc F lcX3_35 dX3_seekFewest_24 ?_
    refine xj_put F ha0 lpX3_36 dX3_seekFewest_26 (fun m5 => ?_)
    refine xj_aload_n F 0 dX3_seekFewest_29 rfl ?_
    refine xj_iconst F (-1) dX3_seekFewest_30 (by decide) ?_
    refine xj_put F ha0 lpX3_40 dX3_seekFewest_31 (fun m6 => ?_)
    refine xj_aload_n F 0 dX3_seekFewest_34 rfl ?_
    refine xj_iconst F 0 dX3_seekFewest_35 (by decide) ?_
    refine xj_put F ha0 lpX3_43 dX3_seekFewest_36 (fun m7 => ?_)
    refine xj_aload_n F 0 dX3_seekFewest_39 rfl ?_
    refine xj_iconst F 0 dX3_seekFewest_40 (by decide) ?_
    refine xj_iconst F 0 dX3_seekFewest_41 (by decide) ?_
    refine xj_iconst F 0 dX3_seekFewest_42 (by decide) ?_
    refine xj_iconst F 0 dX3_seekFewest_43 (by decide) ?_
    refine xj_iconst F 0 dX3_seekFewest_44 (by decide) ?_
    refine xj_callVV (b := a0) (As := [.int 0, .int 0, .int 0, .int 0, .int 0]) (d' := 223) F ha0 lmX3_46 rfl rfl (Nat.le_of_ble_eq_true rfl) (xfit (Nat.le_trans (Nat.le_of_ble_eq_true rfl) hdep)) dX3_seekFewest_45 (fun hT => xvR (P := fun w => xMet G l mX3_goOn (20 + 203) (.ref (xad G a0) :: [.int 0, .int 0, .int 0, .int 0, .int 0]) _ w) (fun z hz => (gwX3_goOn (xnd F) 20) hT ha0 0 0 0 0 0 z hz)) (fun m8 => ?_)
    refine xj_aload_n F 0 dX3_seekFewest_48 rfl ?_
    refine xj_iconst F 1 dX3_seekFewest_49 (by decide) ?_
    refine xj_putZ F ha0 lpX3_23 rfl rfl dX3_seekFewest_50 (fun m9 => ?_)
    exact xj_retV F rfl dX3_seekFewest_53
  · exact xj_retV F rfl dX3_seekFewest_7
