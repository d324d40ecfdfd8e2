set_option maxRecDepth 20000 in
set_option maxHeartbeats 4000000 in
theorem wX2_reset {G : XG} {l : Launch} {d : Nat} (hn : xN G) (hdep : 1 ≤ d) {m0 : XM} (hT : xT G m0) {a0 : Nat} {a1 : Nat} (ha0 : isa G a0 2) (ha1 : isa G a1 6) : ∀ z, fX2_reset (xln G) a0 a1 m0 = some z → xMet G l mX2_reset d [.ref (xad G a0), .ref (xad G a1)] m0 (xrV z) := by
  refine xMet_of (by decide +kernel) hn hT (Nat.le_of_ble_eq_true rfl) (fun X F => ?_)
  refine xj_sub (lv' := [(0, .ref (xad G a0)), (1, .ref (xad G a1))]) [0, 1] rfl ?_
  unfold fX2_reset
  refine xj_aload_n F 0 dX2_reset_0 rfl ?_
  refine xj_aload_n F 1 dX2_reset_1 rfl ?_
  refine xj_putR F ha0 lpX2_9 ha1 dX2_reset_2 (fun m1 => ?_)
  refine xj_aload_n F 0 dX2_reset_5 rfl ?_
  refine xj_getR F ha0 lgX2_15 dX2_reset_6 (fun u2 hu2 => ?_)
  refine xj_iconst F 0 dX2_reset_9 (by decide) ?_
  refine xj_callSV (As := [.ref (xad G u2), .int 0]) (d' := 0) F lmX2_67 rfl rfl (Nat.le_of_ble_eq_true rfl) (xfit (Nat.le_trans (Nat.le_of_ble_eq_true rfl) hdep)) dX2_reset_10 (fun hT z hz => wJ7_fill_53178 (xnd F) (Nat.le_refl _) hT (a0 := u2) (a1 := 0) hu2 z hz) (fun m3 => ?_)
  refine xj_aload_n F 0 dX2_reset_13 rfl ?_
  refine xj_getR F ha0 lgX2_19 dX2_reset_14 (fun u4 hu4 => ?_)
  refine xj_iconst F 0 dX2_reset_17 (by decide) ?_
  refine xj_callSV (As := [.ref (xad G u4), .int 0]) (d' := 0) F lmX2_67 rfl rfl (Nat.le_of_ble_eq_true rfl) (xfit (Nat.le_trans (Nat.le_of_ble_eq_true rfl) hdep)) dX2_reset_18 (fun hT z hz => wJ7_fill_53178 (xnd F) (Nat.le_refl _) hT (a0 := u4) (a1 := 0) hu4 z hz) (fun m5 => ?_)
  refine xj_aload_n F 0 dX2_reset_21 rfl ?_
  refine xj_iconst F 0 dX2_reset_22 (by decide) ?_
  refine xj_put F ha0 lpX2_73 dX2_reset_23 (fun m6 => ?_)
  refine xj_aload_n F 0 dX2_reset_26 rfl ?_
  refine xj_iconst F 0 dX2_reset_27 (by decide) ?_
  refine xj_put F ha0 lpX2_76 dX2_reset_28 (fun m7 => ?_)
  refine xj_aload_n F 0 dX2_reset_31 rfl ?_
  refine xj_iconst F 0 dX2_reset_32 (by decide) ?_
  refine xj_put F ha0 lpX2_79 dX2_reset_33 (fun m8 => ?_)
  refine xj_aload_n F 0 dX2_reset_36 rfl ?_
  refine xj_iconst F 0 dX2_reset_37 (by decide) ?_
  refine xj_put F ha0 lpX2_82 dX2_reset_38 (fun m9 => ?_)
  refine xj_aload_n F 0 dX2_reset_41 rfl ?_
  refine xj_iconst F 0 dX2_reset_42 (by decide) ?_
  refine xj_put F ha0 lpX2_85 dX2_reset_43 (fun m10 => ?_)
  refine xj_aload_n F 0 dX2_reset_46 rfl ?_
  refine xj_iconst F 0 dX2_reset_47 (by decide) ?_
  refine xj_put F ha0 lpX2_88 dX2_reset_48 (fun m11 => ?_)
  refine xj_aload_n F 0 dX2_reset_51 rfl ?_
  refine xj_iconst F 0 dX2_reset_52 (by decide) ?_
  refine xj_putZ F ha0 lpX2_59 rfl rfl dX2_reset_53 (fun m12 => ?_)
  exact xj_retV F rfl dX2_reset_56
set_option maxRecDepth 20000 in
set_option maxHeartbeats 4000000 in
theorem wX2_join {G : XG} {l : Launch} {d : Nat} (hn : xN G) (hdep : 0 ≤ d) {m0 : XM} (hT : xT G m0) {a0 : Nat} {a1 : Int32} {a2 : Int32} {a3 : Int32} (ha0 : isa G a0 2) : ∀ z, fX2_join (xln G) a0 a1 a2 a3 m0 = some z → xMet G l mX2_join d [.ref (xad G a0), .int a1, .int a2, .int a3] m0 (xrI z) := by
  refine xMet_of (by decide +kernel) hn hT (Nat.le_of_ble_eq_true rfl) (fun X F => ?_)
  refine xj_sub (lv' := [(0, .ref (xad G a0)), (1, .int a1), (2, .int a2), (3, .int a3)]) [0, 1, 2, 3] rfl ?_
  unfold fX2_join
  refine xj_iload_n F 1 dX2_join_0 rfl ?_
  refine xj_ite (c := a1 = 4) (fun h1 => ?_) (fun h1 => ?_)
  · refine xj_look F 28 dX2_join_1 (by decide) (by subst h1; rfl) (by decide) ?_
    refine xj_iload_n F 2 dX2_join_28 rfl ?_
    refine xj_iload_n F 3 dX2_join_29 rfl ?_
    refine xj_iadd F dX2_join_30 (fun v2 => ?_)
    exact xj_ret F rfl dX2_join_31
  · skip
    refine xj_ite (c := a1 = 5) (fun h3 => ?_) (fun h3 => ?_)
    · refine xj_look F 32 dX2_join_1 (by decide) (by subst h3; rfl) (by decide) ?_
      refine xj_iload_n F 2 dX2_join_32 rfl ?_
      refine xj_iload_n F 3 dX2_join_33 rfl ?_
      refine xj_isub F dX2_join_34 (fun v4 => ?_)
      exact xj_ret F rfl dX2_join_35
    · skip
      have eh1 := xne 4 h1 rfl
      have eh3 := xne 5 h3 rfl
      refine xj_look F 36 dX2_join_1 (by decide) (off := 35) (by simp only [lv_osw h1 (show Int32.toInt 4 = 4 from rfl), lv_osw h3 (show Int32.toInt 5 = 5 from rfl)]; rfl) (by decide) ?_
      refine xj_iload_n F 2 dX2_join_36 rfl ?_
      refine xj_iload_n F 3 dX2_join_37 rfl ?_
      refine xj_imul F dX2_join_38 (fun v5 => ?_)
      exact xj_ret F rfl dX2_join_39
set_option maxRecDepth 20000 in
set_option maxHeartbeats 4000000 in
theorem wX2_spend {G : XG} {l : Launch} {d : Nat} (hn : xN G) (hdep : 0 ≤ d) {m0 : XM} (hT : xT G m0) {a0 : Nat} (ha0 : isa G a0 2) : ∀ z, fX2_spend (xln G) a0 m0 = some z → xMet G l mX2_spend d [.ref (xad G a0)] m0 (xrI z) := by
  refine xMet_of (by decide +kernel) hn hT (Nat.le_of_ble_eq_true rfl) (fun X F => ?_)
  refine xj_sub (lv' := [(0, .ref (xad G a0))]) [0] rfl ?_
  unfold fX2_spend
  refine xj_aload_n F 0 dX2_spend_0 rfl ?_
  refine xj_get F ha0 lgX2_79 dX2_spend_1 (fun v1 => ?_)
  refine xj_sipush F 3000 dX2_spend_4 (by decide) ?_
  refine xj_icmp_lt (tgt := 17) F dX2_spend_7 (by decide) ?_ ?_
  · refine xj_aload_n F 0 dX2_spend_17 rfl ?_
    refine xj_dup F dX2_spend_18 rfl ?_
    refine xj_get F ha0 lgX2_79 dX2_spend_19 (fun v2 => ?_)
    refine xj_iconst F 1 dX2_spend_22 (by decide) ?_
    refine xj_iadd F dX2_spend_23 (fun v3 => ?_)
    refine xj_put F ha0 lpX2_79 dX2_spend_24 (fun m4 => ?_)
    refine xj_iconst F 1 dX2_spend_27 (by decide) ?_
    exact xj_retZ F rfl rfl dX2_spend_28
  · refine xj_aload_n F 0 dX2_spend_10 rfl ?_
    refine xj_iconst F 1 dX2_spend_11 (by decide) ?_
    refine xj_putZ F ha0 lpX2_59 rfl rfl dX2_spend_12 (fun m5 => ?_)
    refine xj_iconst F 0 dX2_spend_15 (by decide) ?_
    exact xj_retZ F rfl rfl dX2_spend_16
set_option maxRecDepth 20000 in
set_option maxHeartbeats 4000000 in
theorem wX2_openUp {G : XG} {l : Launch} {d : Nat} (hn : xN G) (hdep : 0 ≤ d) {m0 : XM} (hT : xT G m0) {a0 : Nat} {a1 : Int32} (ha0 : isa G a0 2) : ∀ z, fX2_openUp (xln G) a0 a1 m0 = some z → xMet G l mX2_openUp d [.ref (xad G a0), .int a1] m0 (xrI z) := by
  refine xMet_of (by decide +kernel) hn hT (Nat.le_of_ble_eq_true rfl) (fun X F => ?_)
  refine xj_sub (lv' := [(0, .ref (xad G a0)), (1, .int a1)]) [0, 1] rfl ?_
  unfold fX2_openUp
  refine xj_aload_n F 0 dX2_openUp_0 rfl ?_
  refine xj_get F ha0 lgX2_76 dX2_openUp_1 (fun v1 => ?_)
  refine xj_bipush F 20 dX2_openUp_4 (by decide) ?_
  refine xj_icmp_lt (tgt := 16) F dX2_openUp_6 (by decide) ?_ ?_
  · refine xj_aload_n F 0 dX2_openUp_16 rfl ?_
    refine xj_getR F ha0 lgX2_33 dX2_openUp_17 (fun u2 hu2 => ?_)
    refine xj_aload_n F 0 dX2_openUp_20 rfl ?_
    refine xj_get F ha0 lgX2_76 dX2_openUp_21 (fun v3 => ?_)
    refine xj_iload_n F 1 dX2_openUp_24 rfl ?_
    refine xj_iast F hu2 dX2_openUp_25 (fun m4 => ?_)
    refine xj_aload_n F 0 dX2_openUp_26 rfl ?_
    refine xj_dup F dX2_openUp_27 rfl ?_
    refine xj_get F ha0 lgX2_76 dX2_openUp_28 (fun v5 => ?_)
    refine xj_iconst F 1 dX2_openUp_31 (by decide) ?_
    refine xj_iadd F dX2_openUp_32 (fun v6 => ?_)
    refine xj_put F ha0 lpX2_76 dX2_openUp_33 (fun m7 => ?_)
    refine xj_iconst F 1 dX2_openUp_36 (by decide) ?_
    exact xj_retZ F rfl rfl dX2_openUp_37
  · refine xj_aload_n F 0 dX2_openUp_9 rfl ?_
    refine xj_iconst F 1 dX2_openUp_10 (by decide) ?_
    refine xj_putZ F ha0 lpX2_59 rfl rfl dX2_openUp_11 (fun m8 => ?_)
    refine xj_iconst F 0 dX2_openUp_14 (by decide) ?_
    exact xj_retZ F rfl rfl dX2_openUp_15
set_option maxRecDepth 20000 in
set_option maxHeartbeats 4000000 in
theorem jX2_noteBegun_41 {G : XG} {l : Launch} {d : Nat} {X : XX} (F : xF (xE G d) G X mX2_noteBegun) (hdep : 0 ≤ d) : ∀ (n : Nat) (q0 : Nat) (x1 : Int32) (x2 : Int32) (m0 : XM), isa G q0 2 → xJ (xE G d) (xQ xrV G X mX2_noteBegun) G l X mX2_noteBegun 41 [(0, .ref (xad G q0)), (1, .int x1), (2, .int x2)] [] m0 (fX2_noteBegun_41 (xln G) n q0 x1 x2 m0) := by
  intro n
  induction n with
  | zero => intro q0 x1 x2 m0 hq0; exact xj_none
  | succ n hr41 =>
    intro q0 x1 x2 m0 hq0
    unfold fX2_noteBegun_41
    generalize hrg41 : (fun q0 x1 x2 m0 => fX2_noteBegun_41 (xln G) n q0 x1 x2 m0) = r41
    have hr41 : ∀ (q0 : Nat) (x1 : Int32) (x2 : Int32) (m0 : XM), isa G q0 2 → xJ (xE G d) (xQ xrV G X mX2_noteBegun) G l X mX2_noteBegun 41 [(0, .ref (xad G q0)), (1, .int x1), (2, .int x2)] [] m0 (r41 q0 x1 x2 m0) := by
      subst hrg41
      exact hr41
    clear hrg41
    refine xj_eq (xv_eq _ _) ?_
    refine xj_iload_n F 2 dX2_noteBegun_41 rfl ?_
    refine xj_iload_n F 1 dX2_noteBegun_42 rfl ?_
    refine xj_bipush F 12 dX2_noteBegun_43 (by decide) ?_
    refine xj_imul F dX2_noteBegun_45 (fun v1 => ?_)
    refine xj_aload_n F 0 dX2_noteBegun_46 rfl ?_
    refine xj_getR F hq0 lgX2_9 dX2_noteBegun_47 (fun u2 hu2 => ?_)
    refine xj_getR F hu2 lgX2_111 dX2_noteBegun_50 (fun u3 hu3 => ?_)
    refine xj_iload_n F 1 dX2_noteBegun_53 rfl ?_
    refine xj_iald F hu3 dX2_noteBegun_54 (fun v4 => ?_)
    refine xj_iadd F dX2_noteBegun_55 (fun v5 => ?_)
    refine xj_icmp_ge (tgt := 72) F dX2_noteBegun_56 (by decide) ?_ ?_
    · exact xj_retV F rfl dX2_noteBegun_72
    · refine xj_aload_n F 0 dX2_noteBegun_59 rfl ?_
      refine xj_getR F hq0 lgX2_22 dX2_noteBegun_60 (fun u6 hu6 => ?_)
      refine xj_iload_n F 2 dX2_noteBegun_63 rfl ?_
      refine xj_iconst F 0 dX2_noteBegun_64 (by decide) ?_
      refine xj_iast F hu6 dX2_noteBegun_65 (fun m7 => ?_)
      refine xj_iinc F 2 1 (fun v8 => [(2, .int v8), (0, .ref (xad G q0)), (1, .int x1)]) dX2_noteBegun_66 rfl (by decide) (by decide) (fun _ => rfl) (fun v8 => ?_)
      refine xj_goto (tgt := 41) F dX2_noteBegun_69 (by decide) ?_
      refine xj_sub (lv' := [(0, .ref (xad G q0)), (1, .int x1), (2, .int v8)]) [1, 2, 0] rfl ?_
      exact hr41 q0 x1 v8 m7 hq0
set_option maxRecDepth 20000 in
set_option maxHeartbeats 4000000 in
theorem jX2_noteBegun_36 {G : XG} {l : Launch} {d : Nat} {X : XX} (F : xF (xE G d) G X mX2_noteBegun) (hdep : 0 ≤ d) : ∀ (q0 : Nat) (x1 : Int32) (m0 : XM), isa G q0 2 → xJ (xE G d) (xQ xrV G X mX2_noteBegun) G l X mX2_noteBegun 36 [(0, .ref (xad G q0)), (1, .int x1)] [] m0 (fX2_noteBegun_36 (xln G) q0 x1 m0) := by
  intro q0 x1 m0 hq0
  unfold fX2_noteBegun_36
  refine xj_iload_n F 1 dX2_noteBegun_36 rfl ?_
  refine xj_bipush F 12 dX2_noteBegun_37 (by decide) ?_
  refine xj_imul F dX2_noteBegun_39 (fun v1 => ?_)
  refine xj_istore_n (lv' := [(2, .int v1), (0, .ref (xad G q0)), (1, .int x1)]) F dX2_noteBegun_40 (by decide) rfl ?_
  refine xj_sub (lv' := [(0, .ref (xad G q0)), (1, .int x1), (2, .int v1)]) [1, 2, 0] rfl ?_
  exact jX2_noteBegun_41 F hdep XF q0 x1 v1 m0 hq0
set_option maxRecDepth 20000 in
set_option maxHeartbeats 4000000 in
theorem wX2_noteBegun {G : XG} {l : Launch} {d : Nat} (hn : xN G) (hdep : 0 ≤ d) {m0 : XM} (hT : xT G m0) {a0 : Nat} {a1 : Int32} (ha0 : isa G a0 2) : ∀ z, fX2_noteBegun (xln G) a0 a1 m0 = some z → xMet G l mX2_noteBegun d [.ref (xad G a0), .int a1] m0 (xrV z) := by
  refine xMet_of (by decide +kernel) hn hT (Nat.le_of_ble_eq_true rfl) (fun X F => ?_)
  refine xj_sub (lv' := [(0, .ref (xad G a0)), (1, .int a1)]) [0, 1] rfl ?_
  unfold fX2_noteBegun
  refine xj_aload_n F 0 dX2_noteBegun_0 rfl ?_
  refine xj_getR F ha0 lgX2_15 dX2_noteBegun_1 (fun u1 hu1 => ?_)
  refine xj_iload_n F 1 dX2_noteBegun_4 rfl ?_
  refine xj_iconst F 1 dX2_noteBegun_5 (by decide) ?_
  refine xj_iast F hu1 dX2_noteBegun_6 (fun m2 => ?_)
  refine xj_aload_n F 0 dX2_noteBegun_7 rfl ?_
  refine xj_get F ha0 lgX2_73 dX2_noteBegun_8 (fun v3 => ?_)
  refine xj_bipush F 7 dX2_noteBegun_11 (by decide) ?_
  refine xj_icmp_ge (tgt := 36) F dX2_noteBegun_13 (by decide) ?_ ?_
  · exact jX2_noteBegun_36 F hdep a0 a1 m2 ha0
  · refine xj_aload_n F 0 dX2_noteBegun_16 rfl ?_
    refine xj_getR F ha0 lgX2_25 dX2_noteBegun_17 (fun u4 hu4 => ?_)
    refine xj_aload_n F 0 dX2_noteBegun_20 rfl ?_
    refine xj_get F ha0 lgX2_73 dX2_noteBegun_21 (fun v5 => ?_)
    refine xj_iload_n F 1 dX2_noteBegun_24 rfl ?_
    refine xj_iast F hu4 dX2_noteBegun_25 (fun m6 => ?_)
    refine xj_aload_n F 0 dX2_noteBegun_26 rfl ?_
    refine xj_dup F dX2_noteBegun_27 rfl ?_
    refine xj_get F ha0 lgX2_73 dX2_noteBegun_28 (fun v7 => ?_)
    refine xj_iconst F 1 dX2_noteBegun_31 (by decide) ?_
    refine xj_iadd F dX2_noteBegun_32 (fun v8 => ?_)
    refine xj_put F ha0 lpX2_73 dX2_noteBegun_33 (fun m9 => ?_)
    exact jX2_noteBegun_36 F hdep a0 a1 m9 ha0
set_option maxRecDepth 20000 in
set_option maxHeartbeats 4000000 in
theorem jX2_failAll_83 {G : XG} {l : Launch} {d : Nat} {X : XX} (F : xF (xE G d) G X mX2_failAll) (hdep : 0 ≤ d) {r10 : Nat → Int32 → Int32 → Int32 → Int32 → XM → Option (Int32 × XM)} (hr10 : ∀ (q0 : Nat) (x1 : Int32) (x2 : Int32) (x3 : Int32) (x4 : Int32) (m0 : XM), isa G q0 2 → xJ (xE G d) (xQ xrI G X mX2_failAll) G l X mX2_failAll 10 [(0, .ref (xad G q0)), (1, .int x1), (2, .int x2), (3, .int x3), (4, .int x4)] [] m0 (r10 q0 x1 x2 x3 x4 m0)) : ∀ (q0 : Nat) (x1 : Int32) (x2 : Int32) (x3 : Int32) (x4 : Int32) (m0 : XM), isa G q0 2 → xJ (xE G d) (xQ xrI G X mX2_failAll) G l X mX2_failAll 83 [(0, .ref (xad G q0)), (1, .int x1), (2, .int x2), (3, .int x3), (4, .int x4)] [] m0 (fX2_failAll_83 (xln G) r10 q0 x1 x2 x3 x4 m0) := by
  intro q0 x1 x2 x3 x4 m0 hq0
  unfold fX2_failAll_83
  refine xj_iinc F 4 (-1) (fun v1 => [(4, .int v1), (0, .ref (xad G q0)), (1, .int x1), (2, .int x2), (3, .int x3)]) dX2_failAll_83 rfl (by decide) (by decide) (fun _ => rfl) (fun v1 => ?_)
  refine xj_goto (tgt := 10) F dX2_failAll_86 (by decide) ?_
  refine xj_sub (lv' := [(0, .ref (xad G q0)), (1, .int x1), (2, .int x2), (3, .int x3), (4, .int v1)]) [1, 2, 3, 4, 0] rfl ?_
  exact hr10 q0 x1 x2 x3 v1 m0 hq0
set_option maxRecDepth 20000 in
set_option maxHeartbeats 4000000 in
theorem jX2_failAll_10 {G : XG} {l : Launch} {d : Nat} {X : XX} (F : xF (xE G d) G X mX2_failAll) (hdep : 0 ≤ d) : ∀ (n : Nat) (q0 : Nat) (x1 : Int32) (x2 : Int32) (x3 : Int32) (x4 : Int32) (m0 : XM), isa G q0 2 → xJ (xE G d) (xQ xrI G X mX2_failAll) G l X mX2_failAll 10 [(0, .ref (xad G q0)), (1, .int x1), (2, .int x2), (3, .int x3), (4, .int x4)] [] m0 (fX2_failAll_10 (xln G) n q0 x1 x2 x3 x4 m0) := by
  intro n
  induction n with
  | zero => intro q0 x1 x2 x3 x4 m0 hq0; exact xj_none
  | succ n hr10 =>
    intro q0 x1 x2 x3 x4 m0 hq0
    unfold fX2_failAll_10
    generalize hrg10 : (fun q0 x1 x2 x3 x4 m0 => fX2_failAll_10 (xln G) n q0 x1 x2 x3 x4 m0) = r10
    have hr10 : ∀ (q0 : Nat) (x1 : Int32) (x2 : Int32) (x3 : Int32) (x4 : Int32) (m0 : XM), isa G q0 2 → xJ (xE G d) (xQ xrI G X mX2_failAll) G l X mX2_failAll 10 [(0, .ref (xad G q0)), (1, .int x1), (2, .int x2), (3, .int x3), (4, .int x4)] [] m0 (r10 q0 x1 x2 x3 x4 m0) := by
      subst hrg10
      exact hr10
    clear hrg10
    refine xj_eq (xv_eq _ _) ?_
    refine xj_iload F 4 dX2_failAll_10 rfl ?_
    refine xj_if_lt (tgt := 89) F dX2_failAll_12 (by decide) ?_ ?_
    · refine xj_aload_n F 0 dX2_failAll_89 rfl ?_
      refine xj_iconst F 0 dX2_failAll_90 (by decide) ?_
      refine xj_put F hq0 lpX2_76 dX2_failAll_91 (fun m1 => ?_)
      refine xj_iconst F 0 dX2_failAll_94 (by decide) ?_
      exact xj_retZ F rfl rfl dX2_failAll_95
    · refine xj_aload_n F 0 dX2_failAll_15 rfl ?_
      refine xj_getR F hq0 lgX2_33 dX2_failAll_16 (fun u2 hu2 => ?_)
      refine xj_iload F 4 dX2_failAll_19 rfl ?_
      refine xj_iald F hu2 dX2_failAll_21 (fun v3 => ?_)
      refine xj_bipush F 100 dX2_failAll_22 (by decide) ?_
      refine xj_irem F dX2_failAll_24 (fun v4 => ?_)
      refine xj_bipush F 99 dX2_failAll_25 (by decide) ?_
      refine xj_icmp_ne (tgt := 83) F dX2_failAll_27 (by decide) ?_ ?_
      · exact jX2_failAll_83 F hdep hr10 q0 x1 x2 x3 x4 m0 hq0
      · refine xj_aload_n F 0 dX2_failAll_30 rfl ?_
        refine xj_getR F hq0 lgX2_33 dX2_failAll_31 (fun u5 hu5 => ?_)
        refine xj_iload F 4 dX2_failAll_34 rfl ?_
        refine xj_iald F hu5 dX2_failAll_36 (fun v6 => ?_)
        refine xj_bipush F 100 dX2_failAll_37 (by decide) ?_
        refine xj_idiv F dX2_failAll_39 (fun v7 => ?_)
        refine xj_istore (lv' := [(5, .int v7), (0, .ref (xad G q0)), (1, .int x1), (2, .int x2), (3, .int x3), (4, .int x4)]) F dX2_failAll_40 (by decide) rfl ?_
        refine xj_aload_n F 1 dX2_failAll_42 rfl ?_
        refine xj_getR F hq0 lgX2_15 dX2_failAll_43 (fun u8 hu8 => ?_)
        refine xj_iload F 0 dX2_failAll_46 rfl ?_
        refine xj_iconst F 3 dX2_failAll_48 (by decide) ?_
        refine xj_iast F hu8 dX2_failAll_49 (fun m9 => ?_)
        refine xj_aload_n F 1 dX2_failAll_50 rfl ?_
        refine xj_getR F hq0 lgX2_30 dX2_failAll_51 (fun u10 hu10 => ?_)
        refine xj_iconst F 0 dX2_failAll_54 (by decide) ?_
        refine xj_aald F hu10 dX2_failAll_55 (fun u11 hu11 => ?_)
        refine xj_iload F 0 dX2_failAll_56 rfl ?_
        refine xj_iload_n F 2 dX2_failAll_58 rfl ?_
        refine xj_iast F hu11 dX2_failAll_59 (fun m12 => ?_)
        refine xj_aload_n F 1 dX2_failAll_60 rfl ?_
        refine xj_getR F hq0 lgX2_30 dX2_failAll_61 (fun u13 hu13 => ?_)
        refine xj_iconst F 1 dX2_failAll_64 (by decide) ?_
        refine xj_aald F hu13 dX2_failAll_65 (fun u14 hu14 => ?_)
        refine xj_iload F 0 dX2_failAll_66 rfl ?_
        refine xj_iload_n F 3 dX2_failAll_68 rfl ?_
        refine xj_iast F hu14 dX2_failAll_69 (fun m15 => ?_)
        refine xj_aload_n F 1 dX2_failAll_70 rfl ?_
        refine xj_getR F hq0 lgX2_30 dX2_failAll_71 (fun u16 hu16 => ?_)
        refine xj_iconst F 2 dX2_failAll_74 (by decide) ?_
        refine xj_aald F hu16 dX2_failAll_75 (fun u17 hu17 => ?_)
        refine xj_iload F 0 dX2_failAll_76 rfl ?_
        refine xj_iload_n F 4 dX2_failAll_78 rfl ?_
        refine xj_iast F hu17 dX2_failAll_79 (fun m18 => ?_)
        refine xj_iinc F 4 1 (fun v19 => [(3, .int v19), (5, .int v7), (0, .ref (xad G q0)), (1, .int x1), (2, .int x2), (4, .int x4)]) dX2_failAll_80 rfl (by decide) (by decide) (fun _ => rfl) (fun v19 => ?_)
        refine xj_sub (lv' := [(0, .ref (xad G q0)), (1, .int x1), (2, .int x2), (3, .int v19), (4, .int x4)]) [2, 3, 4, 0, 5] rfl ?_
        exact jX2_failAll_83 F hdep hr10 q0 x1 x2 v19 x4 m18 hq0
set_option maxRecDepth 20000 in
set_option maxHeartbeats 4000000 in
theorem wX2_failAll {G : XG} {l : Launch} {d : Nat} (hn : xN G) (hdep : 0 ≤ d) {m0 : XM} (hT : xT G m0) {a0 : Nat} {a1 : Int32} {a2 : Int32} (ha0 : isa G a0 2) : ∀ z, fX2_failAll (xln G) a0 a1 a2 m0 = some z → xMet G l mX2_failAll d [.ref (xad G a0), .int a1, .int a2] m0 (xrI z) := by
  refine xMet_of (by decide +kernel) hn hT (Nat.le_of_ble_eq_true rfl) (fun X F => ?_)
  refine xj_sub (lv' := [(0, .ref (xad G a0)), (1, .int a1), (2, .int a2)]) [0, 1, 2] rfl ?_
  unfold fX2_failAll
  refine xj_iconst F 0 dX2_failAll_0 (by decide) ?_
  refine xj_istore_n (lv' := [(3, .int 0), (0, .ref (xad G a0)), (1, .int a1), (2, .int a2)]) F dX2_failAll_1 (by decide) rfl ?_
  refine xj_aload_n F 1 dX2_failAll_2 rfl ?_
  refine xj_get F ha0 lgX2_76 dX2_failAll_3 (fun v1 => ?_)
  refine xj_iconst F 1 dX2_failAll_6 (by decide) ?_
  refine xj_isub F dX2_failAll_7 (fun v2 => ?_)
  refine xj_istore (lv' := [(4, .int v2), (3, .int 0), (0, .ref (xad G a0)), (1, .int a1), (2, .int a2)]) F dX2_failAll_8 (by decide) rfl ?_
  refine xj_sub (lv' := [(0, .ref (xad G a0)), (1, .int a1), (2, .int a2), (3, .int 0), (4, .int v2)]) [2, 3, 4, 1, 0] rfl ?_
  exact jX2_failAll_10 F hdep XF a0 a1 a2 0 v2 m0 ha0
set_option maxRecDepth 20000 in
set_option maxHeartbeats 4000000 in
theorem jX2_isEarly_39 {G : XG} {l : Launch} {d : Nat} {X : XX} (F : xF (xE G d) G X mX2_isEarly) (hdep : 0 ≤ d) : ∀ (m0 : XM), xJ (xE G d) (xQ xrI G X mX2_isEarly) G l X mX2_isEarly 39 [] [] m0 (fX2_isEarly_39 (xln G)  m0) := by
  intro m0
  unfold fX2_isEarly_39
  refine xj_iconst F 0 dX2_isEarly_39 (by decide) ?_
  exact xj_retZ F rfl rfl dX2_isEarly_40
set_option maxRecDepth 20000 in
set_option maxHeartbeats 4000000 in
theorem wX2_isEarly {G : XG} {l : Launch} {d : Nat} (hn : xN G) (hdep : 0 ≤ d) {m0 : XM} (hT : xT G m0) {a0 : Nat} {a1 : Int32} (ha0 : isa G a0 2) : ∀ z, fX2_isEarly (xln G) a0 a1 m0 = some z → xMet G l mX2_isEarly d [.ref (xad G a0), .int a1] m0 (xrI z) := by
  refine xMet_of (by decide +kernel) hn hT (Nat.le_of_ble_eq_true rfl) (fun X F => ?_)
  refine xj_sub (lv' := [(0, .ref (xad G a0)), (1, .int a1)]) [0, 1] rfl ?_
  unfold fX2_isEarly
  refine xj_aload_n F 0 dX2_isEarly_0 rfl ?_
  refine xj_getR F ha0 lgX2_15 dX2_isEarly_1 (fun u1 hu1 => ?_)
  refine xj_iload_n F 1 dX2_isEarly_4 rfl ?_
  refine xj_bipush F 12 dX2_isEarly_5 (by decide) ?_
  refine xj_idiv F dX2_isEarly_7 (fun v2 => ?_)
  refine xj_iald F hu1 dX2_isEarly_8 (fun v3 => ?_)
  refine xj_iconst F 1 dX2_isEarly_9 (by decide) ?_
  refine xj_icmp_ne (tgt := 39) F dX2_isEarly_10 (by decide) ?_ ?_
  · refine xj_sub (lv' := []) [] rfl ?_
    exact jX2_isEarly_39 F hdep m0
  · refine xj_aload_n F 0 dX2_isEarly_13 rfl ?_
    refine xj_getR F ha0 lgX2_9 dX2_isEarly_14 (fun u4 hu4 => ?_)
    refine xj_getR F hu4 lgX2_144 dX2_isEarly_17 (fun u5 hu5 => ?_)
    refine xj_iload_n F 1 dX2_isEarly_20 rfl ?_
    refine xj_iald F hu5 dX2_isEarly_21 (fun v6 => ?_)
    refine xj_iconst F (-1) dX2_isEarly_22 (by decide) ?_
    refine xj_icmp_eq (tgt := 39) F dX2_isEarly_23 (by decide) ?_ ?_
    · refine xj_sub (lv' := []) [] rfl ?_
      exact jX2_isEarly_39 F hdep m0
    · refine xj_aload_n F 0 dX2_isEarly_26 rfl ?_
      refine xj_getR F ha0 lgX2_22 dX2_isEarly_27 (fun u7 hu7 => ?_)
      refine xj_iload_n F 1 dX2_isEarly_30 rfl ?_
      refine xj_iald F hu7 dX2_isEarly_31 (fun v8 => ?_)
      refine xj_if_ne (tgt := 39) F dX2_isEarly_32 (by decide) ?_ ?_
      · refine xj_sub (lv' := []) [] rfl ?_
        exact jX2_isEarly_39 F hdep m0
      · refine xj_iconst F 1 dX2_isEarly_35 (by decide) ?_
        refine xj_goto (tgt := 40) F dX2_isEarly_36 (by decide) ?_
        exact xj_retZ F rfl rfl dX2_isEarly_40
set_option maxRecDepth 20000 in
set_option maxHeartbeats 4000000 in
theorem jX2_readVariable_41 {G : XG} {l : Launch} {d : Nat} {X : XX} (F : xF (xE G d) G X mX2_readVariable) (hdep : 1 ≤ d) : ∀ (q0 : Nat) (x1 : Int32) (m0 : XM), isa G q0 2 → xJ (xE G d) (xQ xrI G X mX2_readVariable) G l X mX2_readVariable 41 [(0, .ref (xad G q0)), (1, .int x1)] [] m0 (fX2_readVariable_41 (xln G) q0 x1 m0) := by
  intro q0 x1 m0 hq0
  unfold fX2_readVariable_41
  refine xj_aload_n F 0 dX2_readVariable_41 rfl ?_
  refine xj_aload_n F 0 dX2_readVariable_42 rfl ?_
  refine xj_getR F hq0 lgX2_19 dX2_readVariable_43 (fun u1 hu1 => ?_)
  refine xj_iload_n F 1 dX2_readVariable_46 rfl ?_
  refine xj_iald F hu1 dX2_readVariable_47 (fun v2 => ?_)
  refine xj_put F hq0 lpX2_147 dX2_readVariable_48 (fun m3 => ?_)
  refine xj_iconst F 1 dX2_readVariable_51 (by decide) ?_
  exact xj_retZ F rfl rfl dX2_readVariable_52
set_option maxRecDepth 20000 in
set_option maxHeartbeats 4000000 in
theorem jX2_readVariable_31 {G : XG} {l : Launch} {d : Nat} {X : XX} (F : xF (xE G d) G X mX2_readVariable) (hdep : 1 ≤ d) : ∀ (q0 : Nat) (x1 : Int32) (m0 : XM), isa G q0 2 → xJ (xE G d) (xQ xrI G X mX2_readVariable) G l X mX2_readVariable 31 [(0, .ref (xad G q0)), (1, .int x1)] [] m0 (fX2_readVariable_31 (xln G) q0 x1 m0) := by
  intro q0 x1 m0 hq0
  unfold fX2_readVariable_31
  refine xj_aload_n F 0 dX2_readVariable_31 rfl ?_
  refine xj_dup F dX2_readVariable_32 rfl ?_
  refine xj_get F hq0 lgX2_82 dX2_readVariable_33 (fun v1 => ?_)
  refine xj_iconst F 1 dX2_readVariable_36 (by decide) ?_
  refine xj_iadd F dX2_readVariable_37 (fun v2 => ?_)
  refine xj_put F hq0 lpX2_82 dX2_readVariable_38 (fun m3 => ?_)
  exact jX2_readVariable_41 F hdep q0 x1 m3 hq0
set_option maxRecDepth 20000 in
set_option maxHeartbeats 4000000 in
theorem wX2_readVariable {G : XG} {l : Launch} {d : Nat} (hn : xN G) (hdep : 1 ≤ d) {m0 : XM} (hT : xT G m0) {a0 : Nat} {a1 : Int32} (ha0 : isa G a0 2) : ∀ z, fX2_readVariable (xln G) a0 a1 m0 = some z → xMet G l mX2_readVariable d [.ref (xad G a0), .int a1] m0 (xrI z) := by
  refine xMet_of (by decide +kernel) hn hT (Nat.le_of_ble_eq_true rfl) (fun X F => ?_)
  refine xj_sub (lv' := [(0, .ref (xad G a0)), (1, .int a1)]) [0, 1] rfl ?_
  unfold fX2_readVariable
  refine xj_aload_n F 0 dX2_readVariable_0 rfl ?_
  refine xj_iload_n F 1 dX2_readVariable_1 rfl ?_
  refine xj_callVI (b := a0) (As := [.int a1]) (d' := 0) F ha0 lmX2_169 rfl rfl (Nat.le_of_ble_eq_true rfl) (xfit (Nat.le_trans (Nat.le_of_ble_eq_true rfl) hdep)) dX2_readVariable_2 (fun hT z hz => wX2_isEarly (xnd F) (Nat.le_refl _) hT (a0 := a0) (a1 := a1) ha0 z hz) (fun v2 m1 => ?_)
  refine xj_if_eq (tgt := 41) F dX2_readVariable_5 (by decide) ?_ ?_
  · exact jX2_readVariable_41 F hdep a0 a1 m1 ha0
  · refine xj_aload_n F 0 dX2_readVariable_8 rfl ?_
    refine xj_get F ha0 lgX2_82 dX2_readVariable_9 (fun v3 => ?_)
    refine xj_aload_n F 0 dX2_readVariable_12 rfl ?_
    refine xj_getR F ha0 lgX2_42 dX2_readVariable_13 (fun u4 hu4 => ?_)
    refine xj_get F hu4 lgX2_197 dX2_readVariable_16 (fun v5 => ?_)
    refine xj_icmp_ne (tgt := 31) F dX2_readVariable_19 (by decide) ?_ ?_
    · exact jX2_readVariable_31 F hdep a0 a1 m1 ha0
    · refine xj_aload_n F 0 dX2_readVariable_22 rfl ?_
      refine xj_getR F ha0 lgX2_42 dX2_readVariable_23 (fun u6 hu6 => ?_)
      refine xj_aload_n F 0 dX2_readVariable_26 rfl ?_
      refine xj_iload_n F 1 dX2_readVariable_27 rfl ?_
      refine xj_callVV (b := u6) (As := [.ref (xad G a0), .int a1]) (d' := 0) F hu6 lmX2_200 rfl rfl (Nat.le_of_ble_eq_true rfl) (xfit (Nat.le_trans (Nat.le_of_ble_eq_true rfl) hdep)) dX2_readVariable_28 (fun hT z hz => wX4_keep (xnd F) (Nat.le_refl _) hT (a0 := u6) (a1 := a0) (a2 := a1) hu6 ha0 z hz) (fun m7 => ?_)
      exact jX2_readVariable_31 F hdep a0 a1 m7 ha0
set_option maxRecDepth 20000 in
set_option maxHeartbeats 4000000 in
theorem jX2_touchUnit_34 {G : XG} {l : Launch} {d : Nat} {X : XX} (F : xF (xE G d) G X mX2_touchUnit) (hdep : 2 ≤ d) {e : Nat} {R : Nat → Nat → Int32 → Int32 → XM → Option (Int32 × XM)} (hge : e + 1 + 1 ≤ d) (hR1 : ∀ {m0 : XM}, xT G m0 → ∀ {q : Nat}, isa G q 2 → ∀ (x0 x1 : Int32) (z : Int32 × XM), R 1 q x0 x1 m0 = some z → xMet G l mX2_beginUnit (e + 1) [.ref (xad G q), .int x0] m0 (xrI z)) : ∀ (m0 : XM), xJ (xE G d) (xQ xrI G X mX2_touchUnit) G l X mX2_touchUnit 34 [] [] m0 (fX2_touchUnit_34 (xln G) R  m0) := by
  intro m0
  unfold fX2_touchUnit_34
  refine xj_iconst F 1 dX2_touchUnit_34 (by decide) ?_
  refine xj_goto (tgt := 39) F dX2_touchUnit_35 (by decide) ?_
  exact xj_retZ F rfl rfl dX2_touchUnit_39
set_option maxRecDepth 20000 in
set_option maxHeartbeats 4000000 in
theorem wX2_touchUnit {G : XG} {l : Launch} {d : Nat} (hn : xN G) (hdep : 2 ≤ d) {e : Nat} {R : Nat → Nat → Int32 → Int32 → XM → Option (Int32 × XM)} (hge : e + 1 + 1 ≤ d) (hR1 : ∀ {m0 : XM}, xT G m0 → ∀ {q : Nat}, isa G q 2 → ∀ (x0 x1 : Int32) (z : Int32 × XM), R 1 q x0 x1 m0 = some z → xMet G l mX2_beginUnit (e + 1) [.ref (xad G q), .int x0] m0 (xrI z)) {m0 : XM} (hT : xT G m0) {a0 : Nat} {a1 : Int32} (ha0 : isa G a0 2) : ∀ z, fX2_touchUnit (xln G) R a0 a1 m0 = some z → xMet G l mX2_touchUnit d [.ref (xad G a0), .int a1] m0 (xrI z) := by
  refine xMet_of (by decide +kernel) hn hT (Nat.le_of_ble_eq_true rfl) (fun X F => ?_)
  refine xj_sub (lv' := [(0, .ref (xad G a0)), (1, .int a1)]) [0, 1] rfl ?_
  unfold fX2_touchUnit
  refine xj_aload_n F 0 dX2_touchUnit_0 rfl ?_
  refine xj_getR F ha0 lgX2_15 dX2_touchUnit_1 (fun u1 hu1 => ?_)
  refine xj_iload_n F 1 dX2_touchUnit_4 rfl ?_
  refine xj_iald F hu1 dX2_touchUnit_5 (fun v2 => ?_)
  refine xj_if_ne (tgt := 15) F dX2_touchUnit_6 (by decide) ?_ ?_
  · refine xj_aload_n F 0 dX2_touchUnit_15 rfl ?_
    refine xj_getR F ha0 lgX2_15 dX2_touchUnit_16 (fun u3 hu3 => ?_)
    refine xj_iload_n F 1 dX2_touchUnit_19 rfl ?_
    refine xj_iald F hu3 dX2_touchUnit_20 (fun v4 => ?_)
    refine xj_iconst F 3 dX2_touchUnit_21 (by decide) ?_
    refine xj_icmp_ne (tgt := 34) F dX2_touchUnit_22 (by decide) ?_ ?_
    · refine xj_sub (lv' := []) [] rfl ?_
      exact jX2_touchUnit_34 F hdep hge hR1 m0
    · refine xj_aload_n F 0 dX2_touchUnit_25 rfl ?_
      refine xj_iconst F 2 dX2_touchUnit_26 (by decide) ?_
      refine xj_iload_n F 1 dX2_touchUnit_27 rfl ?_
      refine xj_callVI (b := a0) (As := [.int 2, .int a1]) (d' := 0) F ha0 lmX2_120 rfl rfl (Nat.le_of_ble_eq_true rfl) (xfit (Nat.le_trans (Nat.le_of_ble_eq_true rfl) hdep)) dX2_touchUnit_28 (fun hT z hz => wX2_failAll (xnd F) (Nat.le_refl _) hT (a0 := a0) (a1 := 2) (a2 := a1) ha0 z hz) (fun v6 m5 => ?_)
      refine xj_if_eq (tgt := 38) F dX2_touchUnit_31 (by decide) ?_ ?_
      · refine xj_iconst F 0 dX2_touchUnit_38 (by decide) ?_
        exact xj_retZ F rfl rfl dX2_touchUnit_39
      · refine xj_sub (lv' := []) [] rfl ?_
        exact jX2_touchUnit_34 F hdep hge hR1 m5
  · refine xj_aload_n F 0 dX2_touchUnit_9 rfl ?_
    refine xj_iload_n F 1 dX2_touchUnit_10 rfl ?_
    refine xj_callVI (b := a0) (As := [.int a1]) (d' := e + 1) F ha0 lmX2_117 rfl rfl (Nat.le_of_ble_eq_true rfl) (xfit hge) dX2_touchUnit_11 (fun hT z hz => hR1 hT ha0 a1 0 z hz) (fun v8 m7 => ?_)
    exact xj_retB F rfl dX2_touchUnit_14
set_option maxRecDepth 20000 in
set_option maxHeartbeats 4000000 in
theorem jX2_beginUnit_24 {G : XG} {l : Launch} {d : Nat} {X : XX} (F : xF (xE G d) G X mX2_beginUnit) (hdep : 2 ≤ d) {e : Nat} {R : Nat → Nat → Int32 → Int32 → XM → Option (Int32 × XM)} (hge : e + 1 + 1 ≤ d) (hR0 : ∀ {m0 : XM}, xT G m0 → ∀ {q : Nat}, isa G q 2 → ∀ (x0 x1 : Int32) (z : Int32 × XM), R 0 q x0 x1 m0 = some z → xMet G l mX2_touchUnit (e + 1) [.ref (xad G q), .int x0] m0 (xrI z)) (hR2 : ∀ {m0 : XM}, xT G m0 → ∀ {q : Nat}, isa G q 2 → ∀ (x0 x1 : Int32) (z : Int32 × XM), R 2 q x0 x1 m0 = some z → xMet G l mX2_doMember (e + 1) [.ref (xad G q), .int x0] m0 (xrI z)) : ∀ (q0 : Nat) (m0 : XM), isa G q0 2 → xJ (xE G d) (xQ xrI G X mX2_beginUnit) G l X mX2_beginUnit 24 [(0, .ref (xad G q0))] [] m0 (fX2_beginUnit_24 (xln G) R q0 m0) := by
  intro q0 m0 hq0
  unfold fX2_beginUnit_24
  refine xj_aload_n F 0 dX2_beginUnit_24 rfl ?_
  refine xj_iconst F 1 dX2_beginUnit_25 (by decide) ?_
  refine xj_putZ F hq0 lpX2_59 rfl rfl dX2_beginUnit_26 (fun m1 => ?_)
  refine xj_iconst F 0 dX2_beginUnit_29 (by decide) ?_
  exact xj_retZ F rfl rfl dX2_beginUnit_30
set_option maxRecDepth 20000 in
set_option maxHeartbeats 4000000 in
theorem jX2_beginUnit_125 {G : XG} {l : Launch} {d : Nat} {X : XX} (F : xF (xE G d) G X mX2_beginUnit) (hdep : 2 ≤ d) {e : Nat} {R : Nat → Nat → Int32 → Int32 → XM → Option (Int32 × XM)} (hge : e + 1 + 1 ≤ d) (hR0 : ∀ {m0 : XM}, xT G m0 → ∀ {q : Nat}, isa G q 2 → ∀ (x0 x1 : Int32) (z : Int32 × XM), R 0 q x0 x1 m0 = some z → xMet G l mX2_touchUnit (e + 1) [.ref (xad G q), .int x0] m0 (xrI z)) (hR2 : ∀ {m0 : XM}, xT G m0 → ∀ {q : Nat}, isa G q 2 → ∀ (x0 x1 : Int32) (z : Int32 × XM), R 2 q x0 x1 m0 = some z → xMet G l mX2_doMember (e + 1) [.ref (xad G q), .int x0] m0 (xrI z)) {r79 : Nat → Int32 → Int32 → XM → Option (Int32 × XM)} (hr79 : ∀ (q0 : Nat) (x1 : Int32) (x2 : Int32) (m0 : XM), isa G q0 2 → xJ (xE G d) (xQ xrI G X mX2_beginUnit) G l X mX2_beginUnit 79 [(0, .ref (xad G q0)), (1, .int x1), (2, .int x2)] [] m0 (r79 q0 x1 x2 m0)) : ∀ (q0 : Nat) (x1 : Int32) (x2 : Int32) (m0 : XM), isa G q0 2 → xJ (xE G d) (xQ xrI G X mX2_beginUnit) G l X mX2_beginUnit 125 [(0, .ref (xad G q0)), (1, .int x1), (2, .int x2)] [] m0 (fX2_beginUnit_125 (xln G) R r79 q0 x1 x2 m0) := by
  intro q0 x1 x2 m0 hq0
  unfold fX2_beginUnit_125
  refine xj_iinc F 2 1 (fun v1 => [(2, .int v1), (0, .ref (xad G q0)), (1, .int x1)]) dX2_beginUnit_125 rfl (by decide) (by decide) (fun _ => rfl) (fun v1 => ?_)
  refine xj_goto (tgt := 79) F dX2_beginUnit_128 (by decide) ?_
  refine xj_sub (lv' := [(0, .ref (xad G q0)), (1, .int x1), (2, .int v1)]) [1, 2, 0] rfl ?_
  exact hr79 q0 x1 v1 m0 hq0
set_option maxRecDepth 20000 in
set_option maxHeartbeats 4000000 in
theorem jX2_beginUnit_79 {G : XG} {l : Launch} {d : Nat} {X : XX} (F : xF (xE G d) G X mX2_beginUnit) (hdep : 2 ≤ d) {e : Nat} {R : Nat → Nat → Int32 → Int32 → XM → Option (Int32 × XM)} (hge : e + 1 + 1 ≤ d) (hR0 : ∀ {m0 : XM}, xT G m0 → ∀ {q : Nat}, isa G q 2 → ∀ (x0 x1 : Int32) (z : Int32 × XM), R 0 q x0 x1 m0 = some z → xMet G l mX2_touchUnit (e + 1) [.ref (xad G q), .int x0] m0 (xrI z)) (hR2 : ∀ {m0 : XM}, xT G m0 → ∀ {q : Nat}, isa G q 2 → ∀ (x0 x1 : Int32) (z : Int32 × XM), R 2 q x0 x1 m0 = some z → xMet G l mX2_doMember (e + 1) [.ref (xad G q), .int x0] m0 (xrI z)) : ∀ (n : Nat) (q0 : Nat) (x1 : Int32) (x2 : Int32) (m0 : XM), isa G q0 2 → xJ (xE G d) (xQ xrI G X mX2_beginUnit) G l X mX2_beginUnit 79 [(0, .ref (xad G q0)), (1, .int x1), (2, .int x2)] [] m0 (fX2_beginUnit_79 (xln G) R n q0 x1 x2 m0) := by
  intro n
  induction n with
  | zero => intro q0 x1 x2 m0 hq0; exact xj_none
  | succ n hr79 =>
    intro q0 x1 x2 m0 hq0
    unfold fX2_beginUnit_79
    generalize hrg79 : (fun q0 x1 x2 m0 => fX2_beginUnit_79 (xln G) R n q0 x1 x2 m0) = r79
    have hr79 : ∀ (q0 : Nat) (x1 : Int32) (x2 : Int32) (m0 : XM), isa G q0 2 → xJ (xE G d) (xQ xrI G X mX2_beginUnit) G l X mX2_beginUnit 79 [(0, .ref (xad G q0)), (1, .int x1), (2, .int x2)] [] m0 (r79 q0 x1 x2 m0) := by
      subst hrg79
      exact hr79
    clear hrg79
    refine xj_eq (xv_eq _ _) ?_
    refine xj_iload_n F 2 dX2_beginUnit_79 rfl ?_
    refine xj_aload_n F 0 dX2_beginUnit_80 rfl ?_
    refine xj_getR F hq0 lgX2_9 dX2_beginUnit_81 (fun u1 hu1 => ?_)
    refine xj_getR F hu1 lgX2_111 dX2_beginUnit_84 (fun u2 hu2 => ?_)
    refine xj_iload_n F 1 dX2_beginUnit_87 rfl ?_
    refine xj_iald F hu2 dX2_beginUnit_88 (fun v3 => ?_)
    refine xj_icmp_ge (tgt := 131) F dX2_beginUnit_89 (by decide) ?_ ?_
    · refine xj_aload_n F 0 dX2_beginUnit_131 rfl ?_
      refine xj_getR F hq0 lgX2_15 dX2_beginUnit_132 (fun u4 hu4 => ?_)
      refine xj_iload_n F 1 dX2_beginUnit_135 rfl ?_
      refine xj_iconst F 2 dX2_beginUnit_136 (by decide) ?_
      refine xj_iast F hu4 dX2_beginUnit_137 (fun m5 => ?_)
      refine xj_aload_n F 0 dX2_beginUnit_138 rfl ?_
      refine xj_dup F dX2_beginUnit_139 rfl ?_
      refine xj_get F hq0 lgX2_76 dX2_beginUnit_140 (fun v6 => ?_)
      refine xj_iconst F 1 dX2_beginUnit_143 (by decide) ?_
      refine xj_isub F dX2_beginUnit_144 (fun v7 => ?_)
      refine xj_put F hq0 lpX2_76 dX2_beginUnit_145 (fun m8 => ?_)
      refine xj_iconst F 1 dX2_beginUnit_148 (by decide) ?_
      exact xj_retZ F rfl rfl dX2_beginUnit_149
    · refine xj_aload_n F 0 dX2_beginUnit_92 rfl ?_
      refine xj_getR F hq0 lgX2_9 dX2_beginUnit_93 (fun u9 hu9 => ?_)
      refine xj_iload_n F 1 dX2_beginUnit_96 rfl ?_
      refine xj_iload_n F 2 dX2_beginUnit_97 rfl ?_
      refine xj_callVI (b := u9) (As := [.int x1, .int x2]) (d' := 0) F hu9 lmX2_134 rfl rfl (Nat.le_of_ble_eq_true rfl) (xfit (Nat.le_trans (Nat.le_of_ble_eq_true rfl) hdep)) dX2_beginUnit_98 (fun hT z hz => wX6_memberAt (xnd F) (Nat.le_refl _) hT (a0 := u9) (a1 := x1) (a2 := x2) hu9 z hz) (fun v11 m10 => ?_)
      refine xj_istore_n (lv' := [(3, .int v11), (0, .ref (xad G q0)), (1, .int x1), (2, .int x2)]) F dX2_beginUnit_101 (by decide) rfl ?_
      refine xj_aload_n F 1 dX2_beginUnit_102 rfl ?_
      refine xj_getR F hq0 lgX2_9 dX2_beginUnit_103 (fun u12 hu12 => ?_)
      refine xj_getR F hu12 lgX2_138 dX2_beginUnit_106 (fun u13 hu13 => ?_)
      refine xj_iload_n F 0 dX2_beginUnit_109 rfl ?_
      refine xj_iald F hu13 dX2_beginUnit_110 (fun v14 => ?_)
      refine xj_iconst F 1 dX2_beginUnit_111 (by decide) ?_
      refine xj_icmp_ne (tgt := 125) F dX2_beginUnit_112 (by decide) ?_ ?_
      · refine xj_sub (lv' := [(0, .ref (xad G q0)), (1, .int x1), (2, .int x2)]) [1, 2, 3] rfl ?_
        exact jX2_beginUnit_125 F hdep hge hR0 hR2 hr79 q0 x1 x2 m10 hq0
      · refine xj_aload_n F 1 dX2_beginUnit_115 rfl ?_
        refine xj_iload_n F 0 dX2_beginUnit_116 rfl ?_
        refine xj_callVI (b := q0) (As := [.int v11]) (d' := e + 1) F hq0 lmX2_141 rfl rfl (Nat.le_of_ble_eq_true rfl) (xfit hge) dX2_beginUnit_117 (fun hT z hz => hR2 hT hq0 v11 0 z hz) (fun v16 m15 => ?_)
        refine xj_if_ne (tgt := 125) F dX2_beginUnit_120 (by decide) ?_ ?_
        · refine xj_sub (lv' := [(0, .ref (xad G q0)), (1, .int x1), (2, .int x2)]) [1, 2, 3] rfl ?_
          exact jX2_beginUnit_125 F hdep hge hR0 hR2 hr79 q0 x1 x2 m15 hq0
        · refine xj_iconst F 0 dX2_beginUnit_123 (by decide) ?_
          exact xj_retZ F rfl rfl dX2_beginUnit_124
set_option maxRecDepth 20000 in
set_option maxHeartbeats 4000000 in
theorem jX2_beginUnit_77 {G : XG} {l : Launch} {d : Nat} {X : XX} (F : xF (xE G d) G X mX2_beginUnit) (hdep : 2 ≤ d) {e : Nat} {R : Nat → Nat → Int32 → Int32 → XM → Option (Int32 × XM)} (hge : e + 1 + 1 ≤ d) (hR0 : ∀ {m0 : XM}, xT G m0 → ∀ {q : Nat}, isa G q 2 → ∀ (x0 x1 : Int32) (z : Int32 × XM), R 0 q x0 x1 m0 = some z → xMet G l mX2_touchUnit (e + 1) [.ref (xad G q), .int x0] m0 (xrI z)) (hR2 : ∀ {m0 : XM}, xT G m0 → ∀ {q : Nat}, isa G q 2 → ∀ (x0 x1 : Int32) (z : Int32 × XM), R 2 q x0 x1 m0 = some z → xMet G l mX2_doMember (e + 1) [.ref (xad G q), .int x0] m0 (xrI z)) : ∀ (q0 : Nat) (x1 : Int32) (m0 : XM), isa G q0 2 → xJ (xE G d) (xQ xrI G X mX2_beginUnit) G l X mX2_beginUnit 77 [(0, .ref (xad G q0)), (1, .int x1)] [] m0 (fX2_beginUnit_77 (xln G) R q0 x1 m0) := by
  intro q0 x1 m0 hq0
  unfold fX2_beginUnit_77
  refine xj_iconst F 0 dX2_beginUnit_77 (by decide) ?_
  refine xj_istore_n (lv' := [(2, .int 0), (0, .ref (xad G q0)), (1, .int x1)]) F dX2_beginUnit_78 (by decide) rfl ?_
  refine xj_sub (lv' := [(0, .ref (xad G q0)), (1, .int x1), (2, .int 0)]) [1, 2, 0] rfl ?_
  exact jX2_beginUnit_79 F hdep hge hR0 hR2 XF q0 x1 0 m0 hq0
set_option maxRecDepth 20000 in
set_option maxHeartbeats 4000000 in
theorem wX2_beginUnit {G : XG} {l : Launch} {d : Nat} (hn : xN G) (hdep : 2 ≤ d) {e : Nat} {R : Nat → Nat → Int32 → Int32 → XM → Option (Int32 × XM)} (hge : e + 1 + 1 ≤ d) (hR0 : ∀ {m0 : XM}, xT G m0 → ∀ {q : Nat}, isa G q 2 → ∀ (x0 x1 : Int32) (z : Int32 × XM), R 0 q x0 x1 m0 = some z → xMet G l mX2_touchUnit (e + 1) [.ref (xad G q), .int x0] m0 (xrI z)) (hR2 : ∀ {m0 : XM}, xT G m0 → ∀ {q : Nat}, isa G q 2 → ∀ (x0 x1 : Int32) (z : Int32 × XM), R 2 q x0 x1 m0 = some z → xMet G l mX2_doMember (e + 1) [.ref (xad G q), .int x0] m0 (xrI z)) {m0 : XM} (hT : xT G m0) {a0 : Nat} {a1 : Int32} (ha0 : isa G a0 2) : ∀ z, fX2_beginUnit (xln G) R a0 a1 m0 = some z → xMet G l mX2_beginUnit d [.ref (xad G a0), .int a1] m0 (xrI z) := by
  refine xMet_of (by decide +kernel) hn hT (Nat.le_of_ble_eq_true rfl) (fun X F => ?_)
  refine xj_sub (lv' := [(0, .ref (xad G a0)), (1, .int a1)]) [0, 1] rfl ?_
  unfold fX2_beginUnit
  refine xj_aload_n F 0 dX2_beginUnit_0 rfl ?_
  refine xj_get F ha0 lgX2_79 dX2_beginUnit_1 (fun v1 => ?_)
  refine xj_sipush F 3000 dX2_beginUnit_4 (by decide) ?_
  refine xj_icmp_ge (tgt := 24) F dX2_beginUnit_7 (by decide) ?_ ?_
  · refine xj_sub (lv' := [(0, .ref (xad G a0))]) [0] rfl ?_
    exact jX2_beginUnit_24 F hdep hge hR0 hR2 a0 m0 ha0
  · refine xj_aload_n F 0 dX2_beginUnit_10 rfl ?_
    refine xj_iload_n F 1 dX2_beginUnit_11 rfl ?_
    refine xj_bipush F 100 dX2_beginUnit_12 (by decide) ?_
    refine xj_imul F dX2_beginUnit_14 (fun v2 => ?_)
    refine xj_bipush F 99 dX2_beginUnit_15 (by decide) ?_
    refine xj_iadd F dX2_beginUnit_17 (fun v3 => ?_)
    refine xj_callVI (b := a0) (As := [.int v3]) (d' := 0) F ha0 lmX2_124 rfl rfl (Nat.le_of_ble_eq_true rfl) (xfit (Nat.le_trans (Nat.le_of_ble_eq_true rfl) hdep)) dX2_beginUnit_18 (fun hT z hz => wX2_openUp (xnd F) (Nat.le_refl _) hT (a0 := a0) (a1 := v3) ha0 z hz) (fun v5 m4 => ?_)
    refine xj_if_ne (tgt := 31) F dX2_beginUnit_21 (by decide) ?_ ?_
    · refine xj_aload_n F 0 dX2_beginUnit_31 rfl ?_
      refine xj_dup F dX2_beginUnit_32 rfl ?_
      refine xj_get F ha0 lgX2_79 dX2_beginUnit_33 (fun v6 => ?_)
      refine xj_iconst F 1 dX2_beginUnit_36 (by decide) ?_
      refine xj_iadd F dX2_beginUnit_37 (fun v7 => ?_)
      refine xj_put F ha0 lpX2_79 dX2_beginUnit_38 (fun m8 => ?_)
      refine xj_aload_n F 0 dX2_beginUnit_41 rfl ?_
      refine xj_iload_n F 1 dX2_beginUnit_42 rfl ?_
      refine xj_callVV (b := a0) (As := [.int a1]) (d' := 0) F ha0 lmX2_127 rfl rfl (Nat.le_of_ble_eq_true rfl) (xfit (Nat.le_trans (Nat.le_of_ble_eq_true rfl) hdep)) dX2_beginUnit_43 (fun hT z hz => wX2_noteBegun (xnd F) (Nat.le_refl _) hT (a0 := a0) (a1 := a1) ha0 z hz) (fun m9 => ?_)
      refine xj_aload_n F 0 dX2_beginUnit_46 rfl ?_
      refine xj_getR F ha0 lgX2_9 dX2_beginUnit_47 (fun u10 hu10 => ?_)
      refine xj_getR F hu10 lgX2_131 dX2_beginUnit_50 (fun u11 hu11 => ?_)
      refine xj_iload_n F 1 dX2_beginUnit_53 rfl ?_
      refine xj_iald F hu11 dX2_beginUnit_54 (fun v12 => ?_)
      refine xj_iconst F (-1) dX2_beginUnit_55 (by decide) ?_
      refine xj_icmp_eq (tgt := 77) F dX2_beginUnit_56 (by decide) ?_ ?_
      · exact jX2_beginUnit_77 F hdep hge hR0 hR2 a0 a1 m9 ha0
      · refine xj_aload_n F 0 dX2_beginUnit_59 rfl ?_
        refine xj_aload_n F 0 dX2_beginUnit_60 rfl ?_
        refine xj_getR F ha0 lgX2_9 dX2_beginUnit_61 (fun u13 hu13 => ?_)
        refine xj_getR F hu13 lgX2_131 dX2_beginUnit_64 (fun u14 hu14 => ?_)
        refine xj_iload_n F 1 dX2_beginUnit_67 rfl ?_
        refine xj_iald F hu14 dX2_beginUnit_68 (fun v15 => ?_)
        refine xj_callVI (b := a0) (As := [.int v15]) (d' := e + 1) F ha0 lmX2_63 rfl rfl (Nat.le_of_ble_eq_true rfl) (xfit hge) dX2_beginUnit_69 (fun hT z hz => hR0 hT ha0 v15 0 z hz) (fun v17 m16 => ?_)
        refine xj_if_ne (tgt := 77) F dX2_beginUnit_72 (by decide) ?_ ?_
        · exact jX2_beginUnit_77 F hdep hge hR0 hR2 a0 a1 m16 ha0
        · refine xj_iconst F 0 dX2_beginUnit_75 (by decide) ?_
          exact xj_retZ F rfl rfl dX2_beginUnit_76
    · refine xj_sub (lv' := [(0, .ref (xad G a0))]) [0] rfl ?_
      exact jX2_beginUnit_24 F hdep hge hR0 hR2 a0 m4 ha0
set_option maxRecDepth 20000 in
set_option maxHeartbeats 4000000 in
theorem wX2_doMember {G : XG} {l : Launch} {d : Nat} (hn : xN G) (hdep : 2 ≤ d) {e : Nat} {R : Nat → Nat → Int32 → Int32 → XM → Option (Int32 × XM)} (hge : e + 1 + 1 ≤ d) (hR3 : ∀ {m0 : XM}, xT G m0 → ∀ {q : Nat}, isa G q 2 → ∀ (x0 x1 : Int32) (z : Int32 × XM), R 3 q x0 x1 m0 = some z → xMet G l mX2_doDeed (e + 1) [.ref (xad G q), .int x0] m0 (xrI z)) {m0 : XM} (hT : xT G m0) {a0 : Nat} {a1 : Int32} (ha0 : isa G a0 2) : ∀ z, fX2_doMember (xln G) R a0 a1 m0 = some z → xMet G l mX2_doMember d [.ref (xad G a0), .int a1] m0 (xrI z) := by
  refine xMet_of (by decide +kernel) hn hT (Nat.le_of_ble_eq_true rfl) (fun X F => ?_)
  refine xj_sub (lv' := [(0, .ref (xad G a0)), (1, .int a1)]) [0, 1] rfl ?_
  unfold fX2_doMember
  refine xj_aload_n F 0 dX2_doMember_0 rfl ?_
  refine xj_getR F ha0 lgX2_9 dX2_doMember_1 (fun u1 hu1 => ?_)
  refine xj_getR F hu1 lgX2_114 dX2_doMember_4 (fun u2 hu2 => ?_)
  refine xj_iload_n F 1 dX2_doMember_7 rfl ?_
  refine xj_iald F hu2 dX2_doMember_8 (fun v3 => ?_)
  refine xj_istore_n (lv' := [(2, .int v3), (0, .ref (xad G a0)), (1, .int a1)]) F dX2_doMember_9 (by decide) rfl ?_
  refine xj_iload_n F 0 dX2_doMember_10 rfl ?_
  refine xj_iconst F 4 dX2_doMember_11 (by decide) ?_
  refine xj_icmp_eq (tgt := 28) F dX2_doMember_12 (by decide) ?_ ?_
  · refine xj_iconst F 1 dX2_doMember_28 (by decide) ?_
    exact xj_retZ F rfl rfl dX2_doMember_29
  · refine xj_aload_n F 1 dX2_doMember_15 rfl ?_
    refine xj_getR F ha0 lgX2_9 dX2_doMember_16 (fun u4 hu4 => ?_)
    refine xj_getR F hu4 lgX2_144 dX2_doMember_19 (fun u5 hu5 => ?_)
    refine xj_iload_n F 2 dX2_doMember_22 rfl ?_
    refine xj_iald F hu5 dX2_doMember_23 (fun v6 => ?_)
    refine xj_iconst F (-1) dX2_doMember_24 (by decide) ?_
    refine xj_icmp_ne (tgt := 30) F dX2_doMember_25 (by decide) ?_ ?_
    · refine xj_aload_n F 1 dX2_doMember_30 rfl ?_
      refine xj_aload_n F 1 dX2_doMember_31 rfl ?_
      refine xj_getR F ha0 lgX2_9 dX2_doMember_32 (fun u7 hu7 => ?_)
      refine xj_getR F hu7 lgX2_144 dX2_doMember_35 (fun u8 hu8 => ?_)
      refine xj_iload_n F 2 dX2_doMember_38 rfl ?_
      refine xj_iald F hu8 dX2_doMember_39 (fun v9 => ?_)
      refine xj_callVI (b := a0) (As := [.int v9]) (d' := e + 1) F ha0 lmX2_100 rfl rfl (Nat.le_of_ble_eq_true rfl) (xfit hge) dX2_doMember_40 (fun hT z hz => hR3 hT ha0 v9 0 z hz) (fun v11 m10 => ?_)
      refine xj_if_ne (tgt := 48) F dX2_doMember_43 (by decide) ?_ ?_
      · refine xj_iload_n F 0 dX2_doMember_48 rfl ?_
        refine xj_iconst F 1 dX2_doMember_49 (by decide) ?_
        refine xj_icmp_ne (tgt := 70) F dX2_doMember_50 (by decide) ?_ ?_
        · refine xj_iconst F 1 dX2_doMember_70 (by decide) ?_
          exact xj_retZ F rfl rfl dX2_doMember_71
        · refine xj_aload_n F 1 dX2_doMember_53 rfl ?_
          refine xj_getR F ha0 lgX2_19 dX2_doMember_54 (fun u12 hu12 => ?_)
          refine xj_iload_n F 2 dX2_doMember_57 rfl ?_
          refine xj_aload_n F 1 dX2_doMember_58 rfl ?_
          refine xj_get F ha0 lgX2_147 dX2_doMember_59 (fun v13 => ?_)
          refine xj_iast F hu12 dX2_doMember_62 (fun m14 => ?_)
          refine xj_aload_n F 1 dX2_doMember_63 rfl ?_
          refine xj_getR F ha0 lgX2_22 dX2_doMember_64 (fun u15 hu15 => ?_)
          refine xj_iload_n F 2 dX2_doMember_67 rfl ?_
          refine xj_iconst F 1 dX2_doMember_68 (by decide) ?_
          refine xj_iast F hu15 dX2_doMember_69 (fun m16 => ?_)
          refine xj_iconst F 1 dX2_doMember_70 (by decide) ?_
          exact xj_retZ F rfl rfl dX2_doMember_71
      · refine xj_iconst F 0 dX2_doMember_46 (by decide) ?_
        exact xj_retZ F rfl rfl dX2_doMember_47
    · refine xj_iconst F 1 dX2_doMember_28 (by decide) ?_
      exact xj_retZ F rfl rfl dX2_doMember_29
set_option maxRecDepth 20000 in
set_option maxHeartbeats 4000000 in
theorem jX2_doDeed_40 {G : XG} {l : Launch} {d : Nat} {X : XX} (F : xF (xE G d) G X mX2_doDeed) (hdep : 2 ≤ d) {e : Nat} {R : Nat → Nat → Int32 → Int32 → XM → Option (Int32 × XM)} (hge : e + 1 + 1 ≤ d) (hR4 : ∀ {m0 : XM}, xT G m0 → ∀ {q : Nat}, isa G q 2 → ∀ (x0 x1 : Int32) (z : Int32 × XM), R 4 q x0 x1 m0 = some z → xMet G l mX2_setVariable (e + 1) [.ref (xad G q), .int x0, .int x1] m0 (xrI z)) (hR5 : ∀ {m0 : XM}, xT G m0 → ∀ {q : Nat}, isa G q 2 → ∀ (x0 x1 : Int32) (z : Int32 × XM), R 5 q x0 x1 m0 = some z → xMet G l mX2_workOut (e + 1) [.ref (xad G q), .int x0] m0 (xrI z)) : ∀ (m0 : XM), xJ (xE G d) (xQ xrI G X mX2_doDeed) G l X mX2_doDeed 40 [] [] m0 (fX2_doDeed_40 (xln G) R  m0) := by
  intro m0
  unfold fX2_doDeed_40
  refine xj_iconst F 1 dX2_doDeed_40 (by decide) ?_
  refine xj_goto (tgt := 45) F dX2_doDeed_41 (by decide) ?_
  exact xj_retZ F rfl rfl dX2_doDeed_45
set_option maxRecDepth 20000 in
set_option maxHeartbeats 4000000 in
theorem wX2_doDeed {G : XG} {l : Launch} {d : Nat} (hn : xN G) (hdep : 2 ≤ d) {e : Nat} {R : Nat → Nat → Int32 → Int32 → XM → Option (Int32 × XM)} (hge : e + 1 + 1 ≤ d) (hR4 : ∀ {m0 : XM}, xT G m0 → ∀ {q : Nat}, isa G q 2 → ∀ (x0 x1 : Int32) (z : Int32 × XM), R 4 q x0 x1 m0 = some z → xMet G l mX2_setVariable (e + 1) [.ref (xad G q), .int x0, .int x1] m0 (xrI z)) (hR5 : ∀ {m0 : XM}, xT G m0 → ∀ {q : Nat}, isa G q 2 → ∀ (x0 x1 : Int32) (z : Int32 × XM), R 5 q x0 x1 m0 = some z → xMet G l mX2_workOut (e + 1) [.ref (xad G q), .int x0] m0 (xrI z)) {m0 : XM} (hT : xT G m0) {a0 : Nat} {a1 : Int32} (ha0 : isa G a0 2) : ∀ z, fX2_doDeed (xln G) R a0 a1 m0 = some z → xMet G l mX2_doDeed d [.ref (xad G a0), .int a1] m0 (xrI z) := by
  refine xMet_of (by decide +kernel) hn hT (Nat.le_of_ble_eq_true rfl) (fun X F => ?_)
  refine xj_sub (lv' := [(0, .ref (xad G a0)), (1, .int a1)]) [0, 1] rfl ?_
  unfold fX2_doDeed
  refine xj_aload_n F 0 dX2_doDeed_0 rfl ?_
  refine xj_iload_n F 1 dX2_doDeed_1 rfl ?_
  refine xj_callVI (b := a0) (As := [.int a1]) (d' := e + 1) F ha0 lmX2_150 rfl rfl (Nat.le_of_ble_eq_true rfl) (xfit hge) dX2_doDeed_2 (fun hT z hz => hR5 hT ha0 a1 0 z hz) (fun v2 m1 => ?_)
  refine xj_if_ne (tgt := 10) F dX2_doDeed_5 (by decide) ?_ ?_
  · refine xj_aload_n F 0 dX2_doDeed_10 rfl ?_
    refine xj_getR F ha0 lgX2_9 dX2_doDeed_11 (fun u3 hu3 => ?_)
    refine xj_getR F hu3 lgX2_153 dX2_doDeed_14 (fun u4 hu4 => ?_)
    refine xj_getR F hu4 lgX2_157 dX2_doDeed_17 (fun u5 hu5 => ?_)
    refine xj_iload_n F 1 dX2_doDeed_20 rfl ?_
    refine xj_iald F hu5 dX2_doDeed_21 (fun v6 => ?_)
    refine xj_istore_n (lv' := [(2, .int v6), (0, .ref (xad G a0)), (1, .int a1)]) F dX2_doDeed_22 (by decide) rfl ?_
    refine xj_iload_n F 0 dX2_doDeed_23 rfl ?_
    refine xj_iconst F (-1) dX2_doDeed_24 (by decide) ?_
    refine xj_icmp_eq (tgt := 40) F dX2_doDeed_25 (by decide) ?_ ?_
    · refine xj_sub (lv' := []) [] rfl ?_
      exact jX2_doDeed_40 F hdep hge hR4 hR5 m1
    · refine xj_aload_n F 1 dX2_doDeed_28 rfl ?_
      refine xj_iload_n F 0 dX2_doDeed_29 rfl ?_
      refine xj_aload_n F 1 dX2_doDeed_30 rfl ?_
      refine xj_get F ha0 lgX2_147 dX2_doDeed_31 (fun v7 => ?_)
      refine xj_callVI (b := a0) (As := [.int v6, .int v7]) (d' := e + 1) F ha0 lmX2_162 rfl rfl (Nat.le_of_ble_eq_true rfl) (xfit hge) dX2_doDeed_34 (fun hT z hz => hR4 hT ha0 v6 v7 z hz) (fun v9 m8 => ?_)
      refine xj_if_eq (tgt := 44) F dX2_doDeed_37 (by decide) ?_ ?_
      · refine xj_iconst F 0 dX2_doDeed_44 (by decide) ?_
        exact xj_retZ F rfl rfl dX2_doDeed_45
      · refine xj_sub (lv' := []) [] rfl ?_
        exact jX2_doDeed_40 F hdep hge hR4 hR5 m8
  · refine xj_iconst F 0 dX2_doDeed_8 (by decide) ?_
    exact xj_retZ F rfl rfl dX2_doDeed_9
set_option maxRecDepth 20000 in
set_option maxHeartbeats 4000000 in
theorem jX2_setVariable_38 {G : XG} {l : Launch} {d : Nat} {X : XX} (F : xF (xE G d) G X mX2_setVariable) (hdep : 2 ≤ d) {e : Nat} {R : Nat → Nat → Int32 → Int32 → XM → Option (Int32 × XM)} (hge : e + 1 + 1 ≤ d) (hR0 : ∀ {m0 : XM}, xT G m0 → ∀ {q : Nat}, isa G q 2 → ∀ (x0 x1 : Int32) (z : Int32 × XM), R 0 q x0 x1 m0 = some z → xMet G l mX2_touchUnit (e + 1) [.ref (xad G q), .int x0] m0 (xrI z)) : ∀ (q0 : Nat) (x1 : Int32) (x2 : Int32) (m0 : XM), isa G q0 2 → xJ (xE G d) (xQ xrI G X mX2_setVariable) G l X mX2_setVariable 38 [(0, .ref (xad G q0)), (1, .int x1), (2, .int x2)] [] m0 (fX2_setVariable_38 (xln G) R q0 x1 x2 m0) := by
  intro q0 x1 x2 m0 hq0
  unfold fX2_setVariable_38
  refine xj_aload_n F 0 dX2_setVariable_38 rfl ?_
  refine xj_getR F hq0 lgX2_19 dX2_setVariable_39 (fun u1 hu1 => ?_)
  refine xj_iload_n F 1 dX2_setVariable_42 rfl ?_
  refine xj_iload_n F 2 dX2_setVariable_43 rfl ?_
  refine xj_iast F hu1 dX2_setVariable_44 (fun m2 => ?_)
  refine xj_iconst F 1 dX2_setVariable_45 (by decide) ?_
  exact xj_retZ F rfl rfl dX2_setVariable_46
set_option maxRecDepth 20000 in
set_option maxHeartbeats 4000000 in
theorem wX2_setVariable {G : XG} {l : Launch} {d : Nat} (hn : xN G) (hdep : 2 ≤ d) {e : Nat} {R : Nat → Nat → Int32 → Int32 → XM → Option (Int32 × XM)} (hge : e + 1 + 1 ≤ d) (hR0 : ∀ {m0 : XM}, xT G m0 → ∀ {q : Nat}, isa G q 2 → ∀ (x0 x1 : Int32) (z : Int32 × XM), R 0 q x0 x1 m0 = some z → xMet G l mX2_touchUnit (e + 1) [.ref (xad G q), .int x0] m0 (xrI z)) {m0 : XM} (hT : xT G m0) {a0 : Nat} {a1 : Int32} {a2 : Int32} (ha0 : isa G a0 2) : ∀ z, fX2_setVariable (xln G) R a0 a1 a2 m0 = some z → xMet G l mX2_setVariable d [.ref (xad G a0), .int a1, .int a2] m0 (xrI z) := by
  refine xMet_of (by decide +kernel) hn hT (Nat.le_of_ble_eq_true rfl) (fun X F => ?_)
  refine xj_sub (lv' := [(0, .ref (xad G a0)), (1, .int a1), (2, .int a2)]) [0, 1, 2] rfl ?_
  unfold fX2_setVariable
  refine xj_aload_n F 0 dX2_setVariable_0 rfl ?_
  refine xj_iload_n F 1 dX2_setVariable_1 rfl ?_
  refine xj_bipush F 12 dX2_setVariable_2 (by decide) ?_
  refine xj_idiv F dX2_setVariable_4 (fun v1 => ?_)
  refine xj_callVI (b := a0) (As := [.int v1]) (d' := e + 1) F ha0 lmX2_63 rfl rfl (Nat.le_of_ble_eq_true rfl) (xfit hge) dX2_setVariable_5 (fun hT z hz => hR0 hT ha0 v1 0 z hz) (fun v3 m2 => ?_)
  refine xj_if_eq (tgt := 18) F dX2_setVariable_8 (by decide) ?_ ?_
  · refine xj_iconst F 0 dX2_setVariable_18 (by decide) ?_
    exact xj_retZ F rfl rfl dX2_setVariable_19
  · refine xj_aload_n F 0 dX2_setVariable_11 rfl ?_
    refine xj_callVI (b := a0) (As := []) (d' := 0) F ha0 lmX2_165 rfl rfl (Nat.le_of_ble_eq_true rfl) (xfit (Nat.le_trans (Nat.le_of_ble_eq_true rfl) hdep)) dX2_setVariable_12 (fun hT z hz => wX2_spend (xnd F) (Nat.le_refl _) hT (a0 := a0) ha0 z hz) (fun v5 m4 => ?_)
    refine xj_if_ne (tgt := 20) F dX2_setVariable_15 (by decide) ?_ ?_
    · refine xj_aload_n F 0 dX2_setVariable_20 rfl ?_
      refine xj_iload_n F 1 dX2_setVariable_21 rfl ?_
      refine xj_callVI (b := a0) (As := [.int a1]) (d' := 0) F ha0 lmX2_169 rfl rfl (Nat.le_of_ble_eq_true rfl) (xfit (Nat.le_trans (Nat.le_of_ble_eq_true rfl) hdep)) dX2_setVariable_22 (fun hT z hz => wX2_isEarly (xnd F) (Nat.le_refl _) hT (a0 := a0) (a1 := a1) ha0 z hz) (fun v7 m6 => ?_)
      refine xj_if_eq (tgt := 38) F dX2_setVariable_25 (by decide) ?_ ?_
      · exact jX2_setVariable_38 F hdep hge hR0 a0 a1 a2 m6 ha0
      · refine xj_aload_n F 0 dX2_setVariable_28 rfl ?_
        refine xj_dup F dX2_setVariable_29 rfl ?_
        refine xj_get F ha0 lgX2_85 dX2_setVariable_30 (fun v8 => ?_)
        refine xj_iconst F 1 dX2_setVariable_33 (by decide) ?_
        refine xj_iadd F dX2_setVariable_34 (fun v9 => ?_)
        refine xj_put F ha0 lpX2_85 dX2_setVariable_35 (fun m10 => ?_)
        exact jX2_setVariable_38 F hdep hge hR0 a0 a1 a2 m10 ha0
    · refine xj_iconst F 0 dX2_setVariable_18 (by decide) ?_
      exact xj_retZ F rfl rfl dX2_setVariable_19
set_option maxRecDepth 20000 in
set_option maxHeartbeats 4000000 in
theorem jX2_workOut_122 {G : XG} {l : Launch} {d : Nat} {X : XX} (F : xF (xE G d) G X mX2_workOut) (hdep : 2 ≤ d) {e : Nat} {R : Nat → Nat → Int32 → Int32 → XM → Option (Int32 × XM)} (hge : e + 1 + 1 ≤ d) (hR6 : ∀ {m0 : XM}, xT G m0 → ∀ {q : Nat}, isa G q 2 → ∀ (x0 x1 : Int32) (z : Int32 × XM), R 6 q x0 x1 m0 = some z → xMet G l mX2_workOutTerm (e + 1) [.ref (xad G q), .int x0, .int x1] m0 (xrI z)) {r29 : Nat → Int32 → Nat → Int32 → Int32 → Int32 → XM → Option (Int32 × XM)} (hr29 : ∀ (q0 : Nat) (x1 : Int32) (q2 : Nat) (x3 : Int32) (x4 : Int32) (x5 : Int32) (m0 : XM), isa G q0 2 → isa G q2 5 → xJ (xE G d) (xQ xrI G X mX2_workOut) G l X mX2_workOut 29 [(0, .ref (xad G q0)), (1, .int x1), (2, .ref (xad G q2)), (3, .int x3), (4, .int x4), (5, .int x5)] [] m0 (r29 q0 x1 q2 x3 x4 x5 m0)) : ∀ (q0 : Nat) (x1 : Int32) (q2 : Nat) (x3 : Int32) (x4 : Int32) (x5 : Int32) (m0 : XM), isa G q0 2 → isa G q2 5 → xJ (xE G d) (xQ xrI G X mX2_workOut) G l X mX2_workOut 122 [(0, .ref (xad G q0)), (1, .int x1), (2, .ref (xad G q2)), (3, .int x3), (4, .int x4), (5, .int x5)] [] m0 (fX2_workOut_122 (xln G) R r29 q0 x1 q2 x3 x4 x5 m0) := by
  intro q0 x1 q2 x3 x4 x5 m0 hq0 hq2
  unfold fX2_workOut_122
  refine xj_iinc F 5 1 (fun v1 => [(5, .int v1), (0, .ref (xad G q0)), (1, .int x1), (2, .ref (xad G q2)), (3, .int x3), (4, .int x4)]) dX2_workOut_122 rfl (by decide) (by decide) (fun _ => rfl) (fun v1 => ?_)
  refine xj_goto (tgt := 29) F dX2_workOut_125 (by decide) ?_
  refine xj_sub (lv' := [(0, .ref (xad G q0)), (1, .int x1), (2, .ref (xad G q2)), (3, .int x3), (4, .int x4), (5, .int v1)]) [1, 2, 3, 4, 5, 0] rfl ?_
  exact hr29 q0 x1 q2 x3 x4 v1 m0 hq0 hq2
set_option maxRecDepth 20000 in
set_option maxHeartbeats 4000000 in
theorem jX2_workOut_29 {G : XG} {l : Launch} {d : Nat} {X : XX} (F : xF (xE G d) G X mX2_workOut) (hdep : 2 ≤ d) {e : Nat} {R : Nat → Nat → Int32 → Int32 → XM → Option (Int32 × XM)} (hge : e + 1 + 1 ≤ d) (hR6 : ∀ {m0 : XM}, xT G m0 → ∀ {q : Nat}, isa G q 2 → ∀ (x0 x1 : Int32) (z : Int32 × XM), R 6 q x0 x1 m0 = some z → xMet G l mX2_workOutTerm (e + 1) [.ref (xad G q), .int x0, .int x1] m0 (xrI z)) : ∀ (n : Nat) (q0 : Nat) (x1 : Int32) (q2 : Nat) (x3 : Int32) (x4 : Int32) (x5 : Int32) (m0 : XM), isa G q0 2 → isa G q2 5 → xJ (xE G d) (xQ xrI G X mX2_workOut) G l X mX2_workOut 29 [(0, .ref (xad G q0)), (1, .int x1), (2, .ref (xad G q2)), (3, .int x3), (4, .int x4), (5, .int x5)] [] m0 (fX2_workOut_29 (xln G) R n q0 x1 q2 x3 x4 x5 m0) := by
  intro n
  induction n with
  | zero => intro q0 x1 q2 x3 x4 x5 m0 hq0 hq2; exact xj_none
  | succ n hr29 =>
    intro q0 x1 q2 x3 x4 x5 m0 hq0 hq2
    unfold fX2_workOut_29
    generalize hrg29 : (fun q0 x1 q2 x3 x4 x5 m0 => fX2_workOut_29 (xln G) R n q0 x1 q2 x3 x4 x5 m0) = r29
    have hr29 : ∀ (q0 : Nat) (x1 : Int32) (q2 : Nat) (x3 : Int32) (x4 : Int32) (x5 : Int32) (m0 : XM), isa G q0 2 → isa G q2 5 → xJ (xE G d) (xQ xrI G X mX2_workOut) G l X mX2_workOut 29 [(0, .ref (xad G q0)), (1, .int x1), (2, .ref (xad G q2)), (3, .int x3), (4, .int x4), (5, .int x5)] [] m0 (r29 q0 x1 q2 x3 x4 x5 m0) := by
      subst hrg29
      exact hr29
    clear hrg29
    refine xj_eq (xv_eq _ _) ?_
    refine xj_iload F 5 dX2_workOut_29 rfl ?_
    refine xj_aload_n F 2 dX2_workOut_31 rfl ?_
    refine xj_getR F hq2 lgX2_175 dX2_workOut_32 (fun u1 hu1 => ?_)
    refine xj_iload_n F 1 dX2_workOut_35 rfl ?_
    refine xj_iald F hu1 dX2_workOut_36 (fun v2 => ?_)
    refine xj_icmp_ge (tgt := 128) F dX2_workOut_37 (by decide) ?_ ?_
    · refine xj_aload_n F 0 dX2_workOut_128 rfl ?_
      refine xj_aload_n F 0 dX2_workOut_129 rfl ?_
      refine xj_getR F hq0 lgX2_36 dX2_workOut_130 (fun u3 hu3 => ?_)
      refine xj_iload_n F 3 dX2_workOut_133 rfl ?_
      refine xj_iald F hu3 dX2_workOut_134 (fun v4 => ?_)
      refine xj_put F hq0 lpX2_147 dX2_workOut_135 (fun m5 => ?_)
      refine xj_iconst F 1 dX2_workOut_138 (by decide) ?_
      exact xj_retZ F rfl rfl dX2_workOut_139
    · refine xj_aload_n F 2 dX2_workOut_40 rfl ?_
      refine xj_getR F hq2 lgX2_178 dX2_workOut_41 (fun u6 hu6 => ?_)
      refine xj_iload F 5 dX2_workOut_44 rfl ?_
      refine xj_iald F hu6 dX2_workOut_46 (fun v7 => ?_)
      refine xj_istore (lv' := [(6, .int v7), (0, .ref (xad G q0)), (1, .int x1), (2, .ref (xad G q2)), (3, .int x3), (4, .int x4), (5, .int x5)]) F dX2_workOut_47 (by decide) rfl ?_
      refine xj_iload F 0 dX2_workOut_49 rfl ?_
      refine xj_iconst F 3 dX2_workOut_51 (by decide) ?_
      refine xj_icmp_le (tgt := 90) F dX2_workOut_52 (by decide) ?_ ?_
      · refine xj_aload_n F 1 dX2_workOut_90 rfl ?_
        refine xj_iload F 0 dX2_workOut_91 rfl ?_
        refine xj_aload_n F 3 dX2_workOut_93 rfl ?_
        refine xj_getR F hq2 lgX2_185 dX2_workOut_94 (fun u8 hu8 => ?_)
        refine xj_iload F 6 dX2_workOut_97 rfl ?_
        refine xj_iald F hu8 dX2_workOut_99 (fun v9 => ?_)
        refine xj_callVI (b := q0) (As := [.int v7, .int v9]) (d' := e + 1) F hq0 lmX2_188 rfl rfl (Nat.le_of_ble_eq_true rfl) (xfit hge) dX2_workOut_100 (fun hT z hz => hR6 hT hq0 v7 v9 z hz) (fun v11 m10 => ?_)
        refine xj_if_ne (tgt := 108) F dX2_workOut_103 (by decide) ?_ ?_
        · refine xj_iinc F 5 1 (fun v12 => [(4, .int v12), (6, .int v7), (0, .ref (xad G q0)), (1, .int x1), (2, .ref (xad G q2)), (3, .int x3), (5, .int x5)]) dX2_workOut_108 rfl (by decide) (by decide) (fun _ => rfl) (fun v12 => ?_)
          refine xj_aload_n F 2 dX2_workOut_111 rfl ?_
          refine xj_getR F hq0 lgX2_36 dX2_workOut_112 (fun u13 hu13 => ?_)
          refine xj_iload F 0 dX2_workOut_115 rfl ?_
          refine xj_aload_n F 2 dX2_workOut_117 rfl ?_
          refine xj_get F hq0 lgX2_147 dX2_workOut_118 (fun v14 => ?_)
          refine xj_iast F hu13 dX2_workOut_121 (fun m15 => ?_)
          refine xj_sub (lv' := [(0, .ref (xad G q0)), (1, .int x1), (2, .ref (xad G q2)), (3, .int x3), (4, .int v12), (5, .int x5)]) [2, 3, 4, 5, 0, 6] rfl ?_
          exact jX2_workOut_122 F hdep hge hR6 hr29 q0 x1 q2 x3 v12 x5 m15 hq0 hq2
        · refine xj_iconst F 0 dX2_workOut_106 (by decide) ?_
          exact xj_retZ F rfl rfl dX2_workOut_107
      · refine xj_iinc F 5 (-1) (fun v16 => [(4, .int v16), (6, .int v7), (0, .ref (xad G q0)), (1, .int x1), (2, .ref (xad G q2)), (3, .int x3), (5, .int x5)]) dX2_workOut_55 rfl (by decide) (by decide) (fun _ => rfl) (fun v16 => ?_)
        refine xj_aload_n F 2 dX2_workOut_58 rfl ?_
        refine xj_getR F hq0 lgX2_36 dX2_workOut_59 (fun u17 hu17 => ?_)
        refine xj_iload F 0 dX2_workOut_62 rfl ?_
        refine xj_aload_n F 2 dX2_workOut_64 rfl ?_
        refine xj_iload F 1 dX2_workOut_65 rfl ?_
        refine xj_aload_n F 2 dX2_workOut_67 rfl ?_
        refine xj_getR F hq0 lgX2_36 dX2_workOut_68 (fun u18 hu18 => ?_)
        refine xj_iload F 0 dX2_workOut_71 rfl ?_
        refine xj_iald F hu18 dX2_workOut_73 (fun v19 => ?_)
        refine xj_aload_n F 2 dX2_workOut_74 rfl ?_
        refine xj_getR F hq0 lgX2_36 dX2_workOut_75 (fun u20 hu20 => ?_)
        refine xj_iload F 0 dX2_workOut_78 rfl ?_
        refine xj_iconst F 1 dX2_workOut_80 (by decide) ?_
        refine xj_iadd F dX2_workOut_81 (fun v21 => ?_)
        refine xj_iald F hu20 dX2_workOut_82 (fun v22 => ?_)
        refine xj_callVI (b := q0) (As := [.int v7, .int v19, .int v22]) (d' := 0) F hq0 lmX2_181 rfl rfl (Nat.le_of_ble_eq_true rfl) (xfit (Nat.le_trans (Nat.le_of_ble_eq_true rfl) hdep)) dX2_workOut_83 (fun hT z hz => wX2_join (xnd F) (Nat.le_refl _) hT (a0 := q0) (a1 := v7) (a2 := v19) (a3 := v22) hq0 z hz) (fun v24 m23 => ?_)
        refine xj_iast F hu17 dX2_workOut_86 (fun m25 => ?_)
        refine xj_goto (tgt := 122) F dX2_workOut_87 (by decide) ?_
        refine xj_sub (lv' := [(0, .ref (xad G q0)), (1, .int x1), (2, .ref (xad G q2)), (3, .int x3), (4, .int v16), (5, .int x5)]) [2, 3, 4, 5, 0, 6] rfl ?_
        exact jX2_workOut_122 F hdep hge hR6 hr29 q0 x1 q2 x3 v16 x5 m25 hq0 hq2
set_option maxRecDepth 20000 in
set_option maxHeartbeats 4000000 in
theorem wX2_workOut {G : XG} {l : Launch} {d : Nat} (hn : xN G) (hdep : 2 ≤ d) {e : Nat} {R : Nat → Nat → Int32 → Int32 → XM → Option (Int32 × XM)} (hge : e + 1 + 1 ≤ d) (hR6 : ∀ {m0 : XM}, xT G m0 → ∀ {q : Nat}, isa G q 2 → ∀ (x0 x1 : Int32) (z : Int32 × XM), R 6 q x0 x1 m0 = some z → xMet G l mX2_workOutTerm (e + 1) [.ref (xad G q), .int x0, .int x1] m0 (xrI z)) {m0 : XM} (hT : xT G m0) {a0 : Nat} {a1 : Int32} (ha0 : isa G a0 2) : ∀ z, fX2_workOut (xln G) R a0 a1 m0 = some z → xMet G l mX2_workOut d [.ref (xad G a0), .int a1] m0 (xrI z) := by
  refine xMet_of (by decide +kernel) hn hT (Nat.le_of_ble_eq_true rfl) (fun X F => ?_)
  refine xj_sub (lv' := [(0, .ref (xad G a0)), (1, .int a1)]) [0, 1] rfl ?_
  unfold fX2_workOut
  refine xj_aload_n F 0 dX2_workOut_0 rfl ?_
  refine xj_getR F ha0 lgX2_9 dX2_workOut_1 (fun u1 hu1 => ?_)
  refine xj_getR F hu1 lgX2_153 dX2_workOut_4 (fun u2 hu2 => ?_)
  refine xj_astore_n (lv' := [(2, .ref (xad G u2)), (0, .ref (xad G a0)), (1, .int a1)]) F dX2_workOut_7 (by decide) rfl ?_
  refine xj_aload_n F 1 dX2_workOut_8 rfl ?_
  refine xj_get F ha0 lgX2_76 dX2_workOut_9 (fun v3 => ?_)
  refine xj_bipush F 8 dX2_workOut_12 (by decide) ?_
  refine xj_imul F dX2_workOut_14 (fun v4 => ?_)
  refine xj_istore_n (lv' := [(3, .int v4), (2, .ref (xad G u2)), (0, .ref (xad G a0)), (1, .int a1)]) F dX2_workOut_15 (by decide) rfl ?_
  refine xj_iload_n F 0 dX2_workOut_16 rfl ?_
  refine xj_iconst F 1 dX2_workOut_17 (by decide) ?_
  refine xj_isub F dX2_workOut_18 (fun v5 => ?_)
  refine xj_istore (lv' := [(4, .int v5), (3, .int v4), (2, .ref (xad G u2)), (0, .ref (xad G a0)), (1, .int a1)]) F dX2_workOut_19 (by decide) rfl ?_
  refine xj_aload_n F 2 dX2_workOut_21 rfl ?_
  refine xj_getR F hu2 lgX2_172 dX2_workOut_22 (fun u6 hu6 => ?_)
  refine xj_iload_n F 4 dX2_workOut_25 rfl ?_
  refine xj_iald F hu6 dX2_workOut_26 (fun v7 => ?_)
  refine xj_istore (lv' := [(5, .int v7), (4, .int v5), (3, .int v4), (2, .ref (xad G u2)), (0, .ref (xad G a0)), (1, .int a1)]) F dX2_workOut_27 (by decide) rfl ?_
  refine xj_sub (lv' := [(0, .ref (xad G a0)), (1, .int a1), (2, .ref (xad G u2)), (3, .int v4), (4, .int v5), (5, .int v7)]) [4, 5, 3, 2, 1, 0] rfl ?_
  exact jX2_workOut_29 F hdep hge hR6 XF a0 a1 u2 v4 v5 v7 m0 ha0 hu2
set_option maxRecDepth 20000 in
set_option maxHeartbeats 4000000 in
theorem jX2_workOutTerm_66 {G : XG} {l : Launch} {d : Nat} {X : XX} (F : xF (xE G d) G X mX2_workOutTerm) (hdep : 2 ≤ d) {e : Nat} {R : Nat → Nat → Int32 → Int32 → XM → Option (Int32 × XM)} (hge : e + 1 + 1 ≤ d) (hR0 : ∀ {m0 : XM}, xT G m0 → ∀ {q : Nat}, isa G q 2 → ∀ (x0 x1 : Int32) (z : Int32 × XM), R 0 q x0 x1 m0 = some z → xMet G l mX2_touchUnit (e + 1) [.ref (xad G q), .int x0] m0 (xrI z)) (hR7 : ∀ {m0 : XM}, xT G m0 → ∀ {q : Nat}, isa G q 2 → ∀ (x0 x1 : Int32) (z : Int32 × XM), R 7 q x0 x1 m0 = some z → xMet G l mX2_callFunction (e + 1) [.ref (xad G q), .int x0] m0 (xrI z)) : ∀ (m0 : XM), xJ (xE G d) (xQ xrI G X mX2_workOutTerm) G l X mX2_workOutTerm 66 [] [] m0 (fX2_workOutTerm_66 (xln G) R  m0) := by
  intro m0
  unfold fX2_workOutTerm_66
  refine xj_iconst F 0 dX2_workOutTerm_66 (by decide) ?_
  exact xj_retZ F rfl rfl dX2_workOutTerm_67
set_option maxRecDepth 20000 in
set_option maxHeartbeats 4000000 in
theorem jX2_workOutTerm_91 {G : XG} {l : Launch} {d : Nat} {X : XX} (F : xF (xE G d) G X mX2_workOutTerm) (hdep : 2 ≤ d) {e : Nat} {R : Nat → Nat → Int32 → Int32 → XM → Option (Int32 × XM)} (hge : e + 1 + 1 ≤ d) (hR0 : ∀ {m0 : XM}, xT G m0 → ∀ {q : Nat}, isa G q 2 → ∀ (x0 x1 : Int32) (z : Int32 × XM), R 0 q x0 x1 m0 = some z → xMet G l mX2_touchUnit (e + 1) [.ref (xad G q), .int x0] m0 (xrI z)) (hR7 : ∀ {m0 : XM}, xT G m0 → ∀ {q : Nat}, isa G q 2 → ∀ (x0 x1 : Int32) (z : Int32 × XM), R 7 q x0 x1 m0 = some z → xMet G l mX2_callFunction (e + 1) [.ref (xad G q), .int x0] m0 (xrI z)) : ∀ (m0 : XM), xJ (xE G d) (xQ xrI G X mX2_workOutTerm) G l X mX2_workOutTerm 91 [] [] m0 (fX2_workOutTerm_91 (xln G) R  m0) := by
  intro m0
  unfold fX2_workOutTerm_91
  refine xj_iconst F 0 dX2_workOutTerm_91 (by decide) ?_
  exact xj_retZ F rfl rfl dX2_workOutTerm_92
set_option maxRecDepth 20000 in
set_option maxHeartbeats 4000000 in
theorem wX2_workOutTerm {G : XG} {l : Launch} {d : Nat} (hn : xN G) (hdep : 2 ≤ d) {e : Nat} {R : Nat → Nat → Int32 → Int32 → XM → Option (Int32 × XM)} (hge : e + 1 + 1 ≤ d) (hR0 : ∀ {m0 : XM}, xT G m0 → ∀ {q : Nat}, isa G q 2 → ∀ (x0 x1 : Int32) (z : Int32 × XM), R 0 q x0 x1 m0 = some z → xMet G l mX2_touchUnit (e + 1) [.ref (xad G q), .int x0] m0 (xrI z)) (hR7 : ∀ {m0 : XM}, xT G m0 → ∀ {q : Nat}, isa G q 2 → ∀ (x0 x1 : Int32) (z : Int32 × XM), R 7 q x0 x1 m0 = some z → xMet G l mX2_callFunction (e + 1) [.ref (xad G q), .int x0] m0 (xrI z)) {m0 : XM} (hT : xT G m0) {a0 : Nat} {a1 : Int32} {a2 : Int32} (ha0 : isa G a0 2) : ∀ z, fX2_workOutTerm (xln G) R a0 a1 a2 m0 = some z → xMet G l mX2_workOutTerm d [.ref (xad G a0), .int a1, .int a2] m0 (xrI z) := by
  refine xMet_of (by decide +kernel) hn hT (Nat.le_of_ble_eq_true rfl) (fun X F => ?_)
  refine xj_sub (lv' := [(0, .ref (xad G a0)), (1, .int a1), (2, .int a2)]) [0, 1, 2] rfl ?_
  unfold fX2_workOutTerm
  refine xj_aload_n F 0 dX2_workOutTerm_0 rfl ?_
  refine xj_callVI (b := a0) (As := []) (d' := 0) F ha0 lmX2_165 rfl rfl (Nat.le_of_ble_eq_true rfl) (xfit (Nat.le_trans (Nat.le_of_ble_eq_true rfl) hdep)) dX2_workOutTerm_1 (fun hT z hz => wX2_spend (xnd F) (Nat.le_refl _) hT (a0 := a0) ha0 z hz) (fun v2 m1 => ?_)
  refine xj_if_ne (tgt := 9) F dX2_workOutTerm_4 (by decide) ?_ ?_
  · refine xj_iload_n F 1 dX2_workOutTerm_9 rfl ?_
    refine xj_ite (c := a1 = 0) (fun h3 => ?_) (fun h3 => ?_)
    · refine xj_tabIn F 36 dX2_workOutTerm_10 (by subst h3; decide) (by subst h3; decide) (by subst h3; rfl) (by decide) ?_
      refine xj_aload_n F 0 dX2_workOutTerm_36 rfl ?_
      refine xj_iload_n F 2 dX2_workOutTerm_37 rfl ?_
      refine xj_put F ha0 lpX2_147 dX2_workOutTerm_38 (fun m4 => ?_)
      refine xj_iconst F 1 dX2_workOutTerm_41 (by decide) ?_
      exact xj_retZ F rfl rfl dX2_workOutTerm_42
    · skip
      refine xj_ite (c := a1 = 1) (fun h5 => ?_) (fun h5 => ?_)
      · refine xj_tabIn F 43 dX2_workOutTerm_10 (by subst h5; decide) (by subst h5; decide) (by subst h5; rfl) (by decide) ?_
        refine xj_aload_n F 0 dX2_workOutTerm_43 rfl ?_
        refine xj_iload_n F 2 dX2_workOutTerm_44 rfl ?_
        refine xj_bipush F 12 dX2_workOutTerm_45 (by decide) ?_
        refine xj_idiv F dX2_workOutTerm_47 (fun v6 => ?_)
        refine xj_callVI (b := a0) (As := [.int v6]) (d' := e + 1) F ha0 lmX2_63 rfl rfl (Nat.le_of_ble_eq_true rfl) (xfit hge) dX2_workOutTerm_48 (fun hT z hz => hR0 hT ha0 v6 0 z hz) (fun v8 m7 => ?_)
        refine xj_if_eq (tgt := 66) F dX2_workOutTerm_51 (by decide) ?_ ?_
        · refine xj_sub (lv' := []) [] rfl ?_
          exact jX2_workOutTerm_66 F hdep hge hR0 hR7 m7
        · refine xj_aload_n F 0 dX2_workOutTerm_54 rfl ?_
          refine xj_iload_n F 2 dX2_workOutTerm_55 rfl ?_
          refine xj_callVI (b := a0) (As := [.int a2]) (d' := 1) F ha0 lmX2_191 rfl rfl (Nat.le_of_ble_eq_true rfl) (xfit (Nat.le_trans (Nat.le_of_ble_eq_true rfl) hdep)) dX2_workOutTerm_56 (fun hT z hz => wX2_readVariable (xnd F) (Nat.le_refl _) hT (a0 := a0) (a1 := a2) ha0 z hz) (fun v10 m9 => ?_)
          refine xj_if_eq (tgt := 66) F dX2_workOutTerm_59 (by decide) ?_ ?_
          · refine xj_sub (lv' := []) [] rfl ?_
            exact jX2_workOutTerm_66 F hdep hge hR0 hR7 m9
          · refine xj_iconst F 1 dX2_workOutTerm_62 (by decide) ?_
            refine xj_goto (tgt := 67) F dX2_workOutTerm_63 (by decide) ?_
            exact xj_retZ F rfl rfl dX2_workOutTerm_67
      · skip
        refine xj_ite (c := a1 = 2) (fun h11 => ?_) (fun h11 => ?_)
        · refine xj_tabIn F 68 dX2_workOutTerm_10 (by subst h11; decide) (by subst h11; decide) (by subst h11; rfl) (by decide) ?_
          refine xj_aload_n F 0 dX2_workOutTerm_68 rfl ?_
          refine xj_iload_n F 2 dX2_workOutTerm_69 rfl ?_
          refine xj_bipush F 12 dX2_workOutTerm_70 (by decide) ?_
          refine xj_idiv F dX2_workOutTerm_72 (fun v12 => ?_)
          refine xj_callVI (b := a0) (As := [.int v12]) (d' := e + 1) F ha0 lmX2_63 rfl rfl (Nat.le_of_ble_eq_true rfl) (xfit hge) dX2_workOutTerm_73 (fun hT z hz => hR0 hT ha0 v12 0 z hz) (fun v14 m13 => ?_)
          refine xj_if_eq (tgt := 91) F dX2_workOutTerm_76 (by decide) ?_ ?_
          · refine xj_sub (lv' := []) [] rfl ?_
            exact jX2_workOutTerm_91 F hdep hge hR0 hR7 m13
          · refine xj_aload_n F 0 dX2_workOutTerm_79 rfl ?_
            refine xj_iload_n F 2 dX2_workOutTerm_80 rfl ?_
            refine xj_callVI (b := a0) (As := [.int a2]) (d' := e + 1) F ha0 lmX2_194 rfl rfl (Nat.le_of_ble_eq_true rfl) (xfit hge) dX2_workOutTerm_81 (fun hT z hz => hR7 hT ha0 a2 0 z hz) (fun v16 m15 => ?_)
            refine xj_if_eq (tgt := 91) F dX2_workOutTerm_84 (by decide) ?_ ?_
            · refine xj_sub (lv' := []) [] rfl ?_
              exact jX2_workOutTerm_91 F hdep hge hR0 hR7 m15
            · refine xj_iconst F 1 dX2_workOutTerm_87 (by decide) ?_
              refine xj_goto (tgt := 92) F dX2_workOutTerm_88 (by decide) ?_
              exact xj_retZ F rfl rfl dX2_workOutTerm_92
        · skip
          have eh3 := xne 0 h3 rfl
          have eh5 := xne 1 h5 rfl
          have eh11 := xne 2 h11 rfl
          refine xj_tabOut F 93 dX2_workOutTerm_10 (by omega) (by decide) ?_
          refine xj_aload_n F 0 dX2_workOutTerm_93 rfl ?_
          refine xj_iconst F 1 dX2_workOutTerm_94 (by decide) ?_
          refine xj_iconst F (-1) dX2_workOutTerm_95 (by decide) ?_
          refine xj_callVI (b := a0) (As := [.int 1, .int (-1)]) (d' := 0) F ha0 lmX2_120 rfl rfl (Nat.le_of_ble_eq_true rfl) (xfit (Nat.le_trans (Nat.le_of_ble_eq_true rfl) hdep)) dX2_workOutTerm_96 (fun hT z hz => wX2_failAll (xnd F) (Nat.le_refl _) hT (a0 := a0) (a1 := 1) (a2 := (-1)) ha0 z hz) (fun v18 m17 => ?_)
          exact xj_retB F rfl dX2_workOutTerm_99
  · refine xj_iconst F 0 dX2_workOutTerm_7 (by decide) ?_
    exact xj_retZ F rfl rfl dX2_workOutTerm_8
set_option maxRecDepth 20000 in
set_option maxHeartbeats 4000000 in
theorem jX2_callFunction_56 {G : XG} {l : Launch} {d : Nat} {X : XX} (F : xF (xE G d) G X mX2_callFunction) (hdep : 2 ≤ d) {e : Nat} {R : Nat → Nat → Int32 → Int32 → XM → Option (Int32 × XM)} (hge : e + 1 + 1 ≤ d) (hR3 : ∀ {m0 : XM}, xT G m0 → ∀ {q : Nat}, isa G q 2 → ∀ (x0 x1 : Int32) (z : Int32 × XM), R 3 q x0 x1 m0 = some z → xMet G l mX2_doDeed (e + 1) [.ref (xad G q), .int x0] m0 (xrI z)) : ∀ (n : Nat) (q0 : Nat) (x2 : Int32) (x3 : Int32) (m0 : XM), isa G q0 2 → xJ (xE G d) (xQ xrI G X mX2_callFunction) G l X mX2_callFunction 56 [(0, .ref (xad G q0)), (2, .int x2), (3, .int x3)] [] m0 (fX2_callFunction_56 (xln G) R n q0 x2 x3 m0) := by
  intro n
  induction n with
  | zero => intro q0 x2 x3 m0 hq0; exact xj_none
  | succ n hr56 =>
    intro q0 x2 x3 m0 hq0
    unfold fX2_callFunction_56
    generalize hrg56 : (fun q0 x2 x3 m0 => fX2_callFunction_56 (xln G) R n q0 x2 x3 m0) = r56
    have hr56 : ∀ (q0 : Nat) (x2 : Int32) (x3 : Int32) (m0 : XM), isa G q0 2 → xJ (xE G d) (xQ xrI G X mX2_callFunction) G l X mX2_callFunction 56 [(0, .ref (xad G q0)), (2, .int x2), (3, .int x3)] [] m0 (r56 q0 x2 x3 m0) := by
      subst hrg56
      exact hr56
    clear hrg56
    refine xj_eq (xv_eq _ _) ?_
    refine xj_iload_n F 2 dX2_callFunction_56 rfl ?_
    refine xj_iload_n F 1 dX2_callFunction_57 rfl ?_
    refine xj_icmp_gt (tgt := 77) F dX2_callFunction_58 (by decide) ?_ ?_
    · refine xj_aload_n F 0 dX2_callFunction_77 rfl ?_
      refine xj_dup F dX2_callFunction_78 rfl ?_
      refine xj_get F hq0 lgX2_76 dX2_callFunction_79 (fun v1 => ?_)
      refine xj_iconst F 1 dX2_callFunction_82 (by decide) ?_
      refine xj_isub F dX2_callFunction_83 (fun v2 => ?_)
      refine xj_put F hq0 lpX2_76 dX2_callFunction_84 (fun m3 => ?_)
      refine xj_iconst F 1 dX2_callFunction_87 (by decide) ?_
      exact xj_retZ F rfl rfl dX2_callFunction_88
    · refine xj_aload_n F 0 dX2_callFunction_61 rfl ?_
      refine xj_iload_n F 2 dX2_callFunction_62 rfl ?_
      refine xj_callVI (b := q0) (As := [.int x3]) (d' := e + 1) F hq0 lmX2_100 rfl rfl (Nat.le_of_ble_eq_true rfl) (xfit hge) dX2_callFunction_63 (fun hT z hz => hR3 hT hq0 x3 0 z hz) (fun v5 m4 => ?_)
      refine xj_if_ne (tgt := 71) F dX2_callFunction_66 (by decide) ?_ ?_
      · refine xj_iinc F 2 1 (fun v6 => [(3, .int v6), (0, .ref (xad G q0)), (2, .int x2)]) dX2_callFunction_71 rfl (by decide) (by decide) (fun _ => rfl) (fun v6 => ?_)
        refine xj_goto (tgt := 56) F dX2_callFunction_74 (by decide) ?_
        refine xj_sub (lv' := [(0, .ref (xad G q0)), (2, .int x2), (3, .int v6)]) [1, 2, 0] rfl ?_
        exact hr56 q0 x2 v6 m4 hq0
      · refine xj_iconst F 0 dX2_callFunction_69 (by decide) ?_
        exact xj_retZ F rfl rfl dX2_callFunction_70
set_option maxRecDepth 20000 in
set_option maxHeartbeats 4000000 in
theorem wX2_callFunction {G : XG} {l : Launch} {d : Nat} (hn : xN G) (hdep : 2 ≤ d) {e : Nat} {R : Nat → Nat → Int32 → Int32 → XM → Option (Int32 × XM)} (hge : e + 1 + 1 ≤ d) (hR3 : ∀ {m0 : XM}, xT G m0 → ∀ {q : Nat}, isa G q 2 → ∀ (x0 x1 : Int32) (z : Int32 × XM), R 3 q x0 x1 m0 = some z → xMet G l mX2_doDeed (e + 1) [.ref (xad G q), .int x0] m0 (xrI z)) {m0 : XM} (hT : xT G m0) {a0 : Nat} {a1 : Int32} (ha0 : isa G a0 2) : ∀ z, fX2_callFunction (xln G) R a0 a1 m0 = some z → xMet G l mX2_callFunction d [.ref (xad G a0), .int a1] m0 (xrI z) := by
  refine xMet_of (by decide +kernel) hn hT (Nat.le_of_ble_eq_true rfl) (fun X F => ?_)
  refine xj_sub (lv' := [(0, .ref (xad G a0)), (1, .int a1)]) [0, 1] rfl ?_
  unfold fX2_callFunction
  refine xj_aload_n F 0 dX2_callFunction_0 rfl ?_
  refine xj_iload_n F 1 dX2_callFunction_1 rfl ?_
  refine xj_bipush F 12 dX2_callFunction_2 (by decide) ?_
  refine xj_idiv F dX2_callFunction_4 (fun v1 => ?_)
  refine xj_bipush F 100 dX2_callFunction_5 (by decide) ?_
  refine xj_imul F dX2_callFunction_7 (fun v2 => ?_)
  refine xj_aload_n F 0 dX2_callFunction_8 rfl ?_
  refine xj_getR F ha0 lgX2_9 dX2_callFunction_9 (fun u3 hu3 => ?_)
  refine xj_getR F hu3 lgX2_204 dX2_callFunction_12 (fun u4 hu4 => ?_)
  refine xj_iload_n F 1 dX2_callFunction_15 rfl ?_
  refine xj_iald F hu4 dX2_callFunction_16 (fun v5 => ?_)
  refine xj_iadd F dX2_callFunction_17 (fun v6 => ?_)
  refine xj_callVI (b := a0) (As := [.int v6]) (d' := 0) F ha0 lmX2_124 rfl rfl (Nat.le_of_ble_eq_true rfl) (xfit (Nat.le_trans (Nat.le_of_ble_eq_true rfl) hdep)) dX2_callFunction_18 (fun hT z hz => wX2_openUp (xnd F) (Nat.le_refl _) hT (a0 := a0) (a1 := v6) ha0 z hz) (fun v8 m7 => ?_)
  refine xj_if_ne (tgt := 26) F dX2_callFunction_21 (by decide) ?_ ?_
  · refine xj_aload_n F 0 dX2_callFunction_26 rfl ?_
    refine xj_getR F ha0 lgX2_9 dX2_callFunction_27 (fun u9 hu9 => ?_)
    refine xj_getR F hu9 lgX2_144 dX2_callFunction_30 (fun u10 hu10 => ?_)
    refine xj_iload_n F 1 dX2_callFunction_33 rfl ?_
    refine xj_iald F hu10 dX2_callFunction_34 (fun v11 => ?_)
    refine xj_aload_n F 0 dX2_callFunction_35 rfl ?_
    refine xj_getR F ha0 lgX2_9 dX2_callFunction_36 (fun u12 hu12 => ?_)
    refine xj_getR F hu12 lgX2_207 dX2_callFunction_39 (fun u13 hu13 => ?_)
    refine xj_iload_n F 1 dX2_callFunction_42 rfl ?_
    refine xj_iald F hu13 dX2_callFunction_43 (fun v14 => ?_)
    refine xj_iadd F dX2_callFunction_44 (fun v15 => ?_)
    refine xj_istore_n (lv' := [(2, .int v15), (0, .ref (xad G a0)), (1, .int a1)]) F dX2_callFunction_45 (by decide) rfl ?_
    refine xj_aload_n F 1 dX2_callFunction_46 rfl ?_
    refine xj_getR F ha0 lgX2_9 dX2_callFunction_47 (fun u16 hu16 => ?_)
    refine xj_getR F hu16 lgX2_144 dX2_callFunction_50 (fun u17 hu17 => ?_)
    refine xj_iload_n F 2 dX2_callFunction_53 rfl ?_
    refine xj_iald F hu17 dX2_callFunction_54 (fun v18 => ?_)
    refine xj_istore_n (lv' := [(3, .int v18), (2, .int v15), (0, .ref (xad G a0)), (1, .int a1)]) F dX2_callFunction_55 (by decide) rfl ?_
    refine xj_sub (lv' := [(0, .ref (xad G a0)), (2, .int v15), (3, .int v18)]) [2, 1, 0] rfl ?_
    exact jX2_callFunction_56 F hdep hge hR3 XF a0 v15 v18 m7 ha0
  · refine xj_iconst F 0 dX2_callFunction_24 (by decide) ?_
    exact xj_retZ F rfl rfl dX2_callFunction_25
set_option maxRecDepth 20000 in
set_option maxHeartbeats 4000000 in
theorem gwX2_touchUnit {G : XG} {l : Launch} (hn : xN G) : ∀ (e : Nat), (∀ {m0 : XM}, xT G m0 → ∀ {q : Nat}, isa G q 2 → ∀ (x0 x1 : Int32) (z : Int32 × XM), gX2_touchUnit (xln G) e 0 q x0 x1 m0 = some z → xMet G l mX2_touchUnit (e + 1) [.ref (xad G q), .int x0] m0 (xrI z)) ∧ (∀ {m0 : XM}, xT G m0 → ∀ {q : Nat}, isa G q 2 → ∀ (x0 x1 : Int32) (z : Int32 × XM), gX2_touchUnit (xln G) e 1 q x0 x1 m0 = some z → xMet G l mX2_beginUnit (e + 1) [.ref (xad G q), .int x0] m0 (xrI z)) ∧ (∀ {m0 : XM}, xT G m0 → ∀ {q : Nat}, isa G q 2 → ∀ (x0 x1 : Int32) (z : Int32 × XM), gX2_touchUnit (xln G) e 2 q x0 x1 m0 = some z → xMet G l mX2_doMember (e + 1) [.ref (xad G q), .int x0] m0 (xrI z)) ∧ (∀ {m0 : XM}, xT G m0 → ∀ {q : Nat}, isa G q 2 → ∀ (x0 x1 : Int32) (z : Int32 × XM), gX2_touchUnit (xln G) e 3 q x0 x1 m0 = some z → xMet G l mX2_doDeed (e + 1) [.ref (xad G q), .int x0] m0 (xrI z)) ∧ (∀ {m0 : XM}, xT G m0 → ∀ {q : Nat}, isa G q 2 → ∀ (x0 x1 : Int32) (z : Int32 × XM), gX2_touchUnit (xln G) e 4 q x0 x1 m0 = some z → xMet G l mX2_setVariable (e + 1) [.ref (xad G q), .int x0, .int x1] m0 (xrI z)) ∧ (∀ {m0 : XM}, xT G m0 → ∀ {q : Nat}, isa G q 2 → ∀ (x0 x1 : Int32) (z : Int32 × XM), gX2_touchUnit (xln G) e 5 q x0 x1 m0 = some z → xMet G l mX2_workOut (e + 1) [.ref (xad G q), .int x0] m0 (xrI z)) ∧ (∀ {m0 : XM}, xT G m0 → ∀ {q : Nat}, isa G q 2 → ∀ (x0 x1 : Int32) (z : Int32 × XM), gX2_touchUnit (xln G) e 6 q x0 x1 m0 = some z → xMet G l mX2_workOutTerm (e + 1) [.ref (xad G q), .int x0, .int x1] m0 (xrI z)) ∧ (∀ {m0 : XM}, xT G m0 → ∀ {q : Nat}, isa G q 2 → ∀ (x0 x1 : Int32) (z : Int32 × XM), gX2_touchUnit (xln G) e 7 q x0 x1 m0 = some z → xMet G l mX2_callFunction (e + 1) [.ref (xad G q), .int x0] m0 (xrI z)) := by
  intro e
  induction e with
  | zero => exact ⟨(by intro m0 hT q hq x0 x1 z hz; unfold gX2_touchUnit at hz; cases hz), (by intro m0 hT q hq x0 x1 z hz; unfold gX2_touchUnit at hz; cases hz), (by intro m0 hT q hq x0 x1 z hz; unfold gX2_touchUnit at hz; cases hz), (by intro m0 hT q hq x0 x1 z hz; unfold gX2_touchUnit at hz; cases hz), (by intro m0 hT q hq x0 x1 z hz; unfold gX2_touchUnit at hz; cases hz), (by intro m0 hT q hq x0 x1 z hz; unfold gX2_touchUnit at hz; cases hz), (by intro m0 hT q hq x0 x1 z hz; unfold gX2_touchUnit at hz; cases hz), (by intro m0 hT q hq x0 x1 z hz; unfold gX2_touchUnit at hz; cases hz)⟩
  | succ e ih =>
    generalize hRg : (fun t q x0 x1 m0 => gX2_touchUnit (xln G) e t q x0 x1 m0) = R
    have hR0 : ∀ {m0 : XM}, xT G m0 → ∀ {q : Nat}, isa G q 2 → ∀ (x0 x1 : Int32) (z : Int32 × XM), R 0 q x0 x1 m0 = some z → xMet G l mX2_touchUnit (e + 1) [.ref (xad G q), .int x0] m0 (xrI z) := by
      subst hRg
      exact ih.1
    have hR1 : ∀ {m0 : XM}, xT G m0 → ∀ {q : Nat}, isa G q 2 → ∀ (x0 x1 : Int32) (z : Int32 × XM), R 1 q x0 x1 m0 = some z → xMet G l mX2_beginUnit (e + 1) [.ref (xad G q), .int x0] m0 (xrI z) := by
      subst hRg
      exact ih.2.1
    have hR2 : ∀ {m0 : XM}, xT G m0 → ∀ {q : Nat}, isa G q 2 → ∀ (x0 x1 : Int32) (z : Int32 × XM), R 2 q x0 x1 m0 = some z → xMet G l mX2_doMember (e + 1) [.ref (xad G q), .int x0] m0 (xrI z) := by
      subst hRg
      exact ih.2.2.1
    have hR3 : ∀ {m0 : XM}, xT G m0 → ∀ {q : Nat}, isa G q 2 → ∀ (x0 x1 : Int32) (z : Int32 × XM), R 3 q x0 x1 m0 = some z → xMet G l mX2_doDeed (e + 1) [.ref (xad G q), .int x0] m0 (xrI z) := by
      subst hRg
      exact ih.2.2.2.1
    have hR4 : ∀ {m0 : XM}, xT G m0 → ∀ {q : Nat}, isa G q 2 → ∀ (x0 x1 : Int32) (z : Int32 × XM), R 4 q x0 x1 m0 = some z → xMet G l mX2_setVariable (e + 1) [.ref (xad G q), .int x0, .int x1] m0 (xrI z) := by
      subst hRg
      exact ih.2.2.2.2.1
    have hR5 : ∀ {m0 : XM}, xT G m0 → ∀ {q : Nat}, isa G q 2 → ∀ (x0 x1 : Int32) (z : Int32 × XM), R 5 q x0 x1 m0 = some z → xMet G l mX2_workOut (e + 1) [.ref (xad G q), .int x0] m0 (xrI z) := by
      subst hRg
      exact ih.2.2.2.2.2.1
    have hR6 : ∀ {m0 : XM}, xT G m0 → ∀ {q : Nat}, isa G q 2 → ∀ (x0 x1 : Int32) (z : Int32 × XM), R 6 q x0 x1 m0 = some z → xMet G l mX2_workOutTerm (e + 1) [.ref (xad G q), .int x0, .int x1] m0 (xrI z) := by
      subst hRg
      exact ih.2.2.2.2.2.2.1
    have hR7 : ∀ {m0 : XM}, xT G m0 → ∀ {q : Nat}, isa G q 2 → ∀ (x0 x1 : Int32) (z : Int32 × XM), R 7 q x0 x1 m0 = some z → xMet G l mX2_callFunction (e + 1) [.ref (xad G q), .int x0] m0 (xrI z) := by
      subst hRg
      exact ih.2.2.2.2.2.2.2
    have p0 : ∀ {m0 : XM}, xT G m0 → ∀ {q : Nat}, isa G q 2 → ∀ (x0 x1 : Int32) (z : Int32 × XM), gX2_touchUnit (xln G) (e + 1) 0 q x0 x1 m0 = some z → xMet G l mX2_touchUnit (e + 1 + 1) [.ref (xad G q), .int x0] m0 (xrI z) := by
      intro m0 hT q hq x0 x1 z hz
      unfold gX2_touchUnit at hz
      rw [hRg] at hz
      have hz := hz
      simp only [xv, if_pos (show 0 = 0 from rfl)] at hz
      exact wX2_touchUnit hn (by omega) (e := e) (R := R) (by omega) hR1 hT (a0 := q) (a1 := x0) hq z hz
    have p1 : ∀ {m0 : XM}, xT G m0 → ∀ {q : Nat}, isa G q 2 → ∀ (x0 x1 : Int32) (z : Int32 × XM), gX2_touchUnit (xln G) (e + 1) 1 q x0 x1 m0 = some z → xMet G l mX2_beginUnit (e + 1 + 1) [.ref (xad G q), .int x0] m0 (xrI z) := by
      intro m0 hT q hq x0 x1 z hz
      unfold gX2_touchUnit at hz
      rw [hRg] at hz
      have hz := hz
      simp only [xv, if_neg (show ¬ 1 = 0 by decide), if_pos (show 1 = 1 from rfl)] at hz
      exact wX2_beginUnit hn (by omega) (e := e) (R := R) (by omega) hR0 hR2 hT (a0 := q) (a1 := x0) hq z hz
    have p2 : ∀ {m0 : XM}, xT G m0 → ∀ {q : Nat}, isa G q 2 → ∀ (x0 x1 : Int32) (z : Int32 × XM), gX2_touchUnit (xln G) (e + 1) 2 q x0 x1 m0 = some z → xMet G l mX2_doMember (e + 1 + 1) [.ref (xad G q), .int x0] m0 (xrI z) := by
      intro m0 hT q hq x0 x1 z hz
      unfold gX2_touchUnit at hz
      rw [hRg] at hz
      have hz := hz
      simp only [xv, if_neg (show ¬ 2 = 0 by decide), if_neg (show ¬ 2 = 1 by decide), if_pos (show 2 = 2 from rfl)] at hz
      exact wX2_doMember hn (by omega) (e := e) (R := R) (by omega) hR3 hT (a0 := q) (a1 := x0) hq z hz
    have p3 : ∀ {m0 : XM}, xT G m0 → ∀ {q : Nat}, isa G q 2 → ∀ (x0 x1 : Int32) (z : Int32 × XM), gX2_touchUnit (xln G) (e + 1) 3 q x0 x1 m0 = some z → xMet G l mX2_doDeed (e + 1 + 1) [.ref (xad G q), .int x0] m0 (xrI z) := by
      intro m0 hT q hq x0 x1 z hz
      unfold gX2_touchUnit at hz
      rw [hRg] at hz
      have hz := hz
      simp only [xv, if_neg (show ¬ 3 = 0 by decide), if_neg (show ¬ 3 = 1 by decide), if_neg (show ¬ 3 = 2 by decide), if_pos (show 3 = 3 from rfl)] at hz
      exact wX2_doDeed hn (by omega) (e := e) (R := R) (by omega) hR4 hR5 hT (a0 := q) (a1 := x0) hq z hz
    have p4 : ∀ {m0 : XM}, xT G m0 → ∀ {q : Nat}, isa G q 2 → ∀ (x0 x1 : Int32) (z : Int32 × XM), gX2_touchUnit (xln G) (e + 1) 4 q x0 x1 m0 = some z → xMet G l mX2_setVariable (e + 1 + 1) [.ref (xad G q), .int x0, .int x1] m0 (xrI z) := by
      intro m0 hT q hq x0 x1 z hz
      unfold gX2_touchUnit at hz
      rw [hRg] at hz
      have hz := hz
      simp only [xv, if_neg (show ¬ 4 = 0 by decide), if_neg (show ¬ 4 = 1 by decide), if_neg (show ¬ 4 = 2 by decide), if_neg (show ¬ 4 = 3 by decide), if_pos (show 4 = 4 from rfl)] at hz
      exact wX2_setVariable hn (by omega) (e := e) (R := R) (by omega) hR0 hT (a0 := q) (a1 := x0) (a2 := x1) hq z hz
    have p5 : ∀ {m0 : XM}, xT G m0 → ∀ {q : Nat}, isa G q 2 → ∀ (x0 x1 : Int32) (z : Int32 × XM), gX2_touchUnit (xln G) (e + 1) 5 q x0 x1 m0 = some z → xMet G l mX2_workOut (e + 1 + 1) [.ref (xad G q), .int x0] m0 (xrI z) := by
      intro m0 hT q hq x0 x1 z hz
      unfold gX2_touchUnit at hz
      rw [hRg] at hz
      have hz := hz
      simp only [xv, if_neg (show ¬ 5 = 0 by decide), if_neg (show ¬ 5 = 1 by decide), if_neg (show ¬ 5 = 2 by decide), if_neg (show ¬ 5 = 3 by decide), if_neg (show ¬ 5 = 4 by decide), if_pos (show 5 = 5 from rfl)] at hz
      exact wX2_workOut hn (by omega) (e := e) (R := R) (by omega) hR6 hT (a0 := q) (a1 := x0) hq z hz
    have p6 : ∀ {m0 : XM}, xT G m0 → ∀ {q : Nat}, isa G q 2 → ∀ (x0 x1 : Int32) (z : Int32 × XM), gX2_touchUnit (xln G) (e + 1) 6 q x0 x1 m0 = some z → xMet G l mX2_workOutTerm (e + 1 + 1) [.ref (xad G q), .int x0, .int x1] m0 (xrI z) := by
      intro m0 hT q hq x0 x1 z hz
      unfold gX2_touchUnit at hz
      rw [hRg] at hz
      have hz := hz
      simp only [xv, if_neg (show ¬ 6 = 0 by decide), if_neg (show ¬ 6 = 1 by decide), if_neg (show ¬ 6 = 2 by decide), if_neg (show ¬ 6 = 3 by decide), if_neg (show ¬ 6 = 4 by decide), if_neg (show ¬ 6 = 5 by decide), if_pos (show 6 = 6 from rfl)] at hz
      exact wX2_workOutTerm hn (by omega) (e := e) (R := R) (by omega) hR0 hR7 hT (a0 := q) (a1 := x0) (a2 := x1) hq z hz
    have p7 : ∀ {m0 : XM}, xT G m0 → ∀ {q : Nat}, isa G q 2 → ∀ (x0 x1 : Int32) (z : Int32 × XM), gX2_touchUnit (xln G) (e + 1) 7 q x0 x1 m0 = some z → xMet G l mX2_callFunction (e + 1 + 1) [.ref (xad G q), .int x0] m0 (xrI z) := by
      intro m0 hT q hq x0 x1 z hz
      unfold gX2_touchUnit at hz
      rw [hRg] at hz
      have hz := hz
      simp only [xv, if_neg (show ¬ 7 = 0 by decide), if_neg (show ¬ 7 = 1 by decide), if_neg (show ¬ 7 = 2 by decide), if_neg (show ¬ 7 = 3 by decide), if_neg (show ¬ 7 = 4 by decide), if_neg (show ¬ 7 = 5 by decide), if_neg (show ¬ 7 = 6 by decide), if_pos (show 7 = 7 from rfl)] at hz
      exact wX2_callFunction hn (by omega) (e := e) (R := R) (by omega) hR3 hT (a0 := q) (a1 := x0) hq z hz
    exact ⟨p0, p1, p2, p3, p4, p5, p6, p7⟩
set_option maxRecDepth 20000 in
set_option maxHeartbeats 4000000 in
theorem jX2_runMain_62 {G : XG} {l : Launch} {d : Nat} {X : XX} (F : xF (xE G d) G X mX2_runMain) (hdep : 202 ≤ d) {r5 : Nat → XM → Option XM} (hr5 : ∀ (q0 : Nat) (m0 : XM), isa G q0 2 → xJ (xE G d) (xQ xrV G X mX2_runMain) G l X mX2_runMain 5 [(0, .ref (xad G q0))] [] m0 (r5 q0 m0)) : ∀ (q0 : Nat) (m0 : XM), isa G q0 2 → xJ (xE G d) (xQ xrV G X mX2_runMain) G l X mX2_runMain 62 [(0, .ref (xad G q0))] [] m0 (fX2_runMain_62 (xln G) r5 q0 m0) := by
  intro q0 m0 hq0
  unfold fX2_runMain_62
  refine xj_aload_n F 0 dX2_runMain_62 rfl ?_
  refine xj_dup F dX2_runMain_63 rfl ?_
  refine xj_get F hq0 lgX2_91 dX2_runMain_64 (fun v1 => ?_)
  refine xj_iconst F 1 dX2_runMain_67 (by decide) ?_
  refine xj_iadd F dX2_runMain_68 (fun v2 => ?_)
  refine xj_put F hq0 lpX2_91 dX2_runMain_69 (fun m3 => ?_)
  refine xj_goto (tgt := 5) F dX2_runMain_72 (by decide) ?_
  exact hr5 q0 m3 hq0
set_option maxRecDepth 20000 in
set_option maxHeartbeats 4000000 in
theorem jX2_runMain_5 {G : XG} {l : Launch} {d : Nat} {X : XX} (F : xF (xE G d) G X mX2_runMain) (hdep : 202 ≤ d) : ∀ (n : Nat) (q0 : Nat) (m0 : XM), isa G q0 2 → xJ (xE G d) (xQ xrV G X mX2_runMain) G l X mX2_runMain 5 [(0, .ref (xad G q0))] [] m0 (fX2_runMain_5 (xln G) n q0 m0) := by
  intro n
  induction n with
  | zero => intro q0 m0 hq0; exact xj_none
  | succ n hr5 =>
    intro q0 m0 hq0
    unfold fX2_runMain_5
    generalize hrg5 : (fun q0 m0 => fX2_runMain_5 (xln G) n q0 m0) = r5
    have hr5 : ∀ (q0 : Nat) (m0 : XM), isa G q0 2 → xJ (xE G d) (xQ xrV G X mX2_runMain) G l X mX2_runMain 5 [(0, .ref (xad G q0))] [] m0 (r5 q0 m0) := by
      subst hrg5
      exact hr5
    clear hrg5
    refine xj_eq (xv_eq _ _) ?_
    refine xj_aload_n F 0 dX2_runMain_5 rfl ?_
    refine xj_get F hq0 lgX2_91 dX2_runMain_6 (fun v1 => ?_)
    refine xj_aload_n F 0 dX2_runMain_9 rfl ?_
    refine xj_getR F hq0 lgX2_9 dX2_runMain_10 (fun u2 hu2 => ?_)
    refine xj_get F hu2 lgX2_94 dX2_runMain_13 (fun v3 => ?_)
    refine xj_icmp_ge (tgt := 75) F dX2_runMain_16 (by decide) ?_ ?_
    · exact xj_retV F rfl dX2_runMain_75
    · refine xj_aload_n F 0 dX2_runMain_19 rfl ?_
      refine xj_get F hq0 lgX2_59 dX2_runMain_20 (fun v4 => ?_)
      refine xj_if_ne (tgt := 75) F dX2_runMain_23 (by decide) ?_ ?_
      · exact xj_retV F rfl dX2_runMain_75
      · refine xj_aload_n F 0 dX2_runMain_26 rfl ?_
        refine xj_aload_n F 0 dX2_runMain_27 rfl ?_
        refine xj_getR F hq0 lgX2_9 dX2_runMain_28 (fun u5 hu5 => ?_)
        refine xj_getR F hu5 lgX2_97 dX2_runMain_31 (fun u6 hu6 => ?_)
        refine xj_aload_n F 0 dX2_runMain_34 rfl ?_
        refine xj_get F hq0 lgX2_91 dX2_runMain_35 (fun v7 => ?_)
        refine xj_iald F hu6 dX2_runMain_38 (fun v8 => ?_)
        refine xj_callVI (b := q0) (As := [.int v8]) (d' := 201) F hq0 lmX2_100 rfl rfl (Nat.le_of_ble_eq_true rfl) (xfit (Nat.le_trans (Nat.le_of_ble_eq_true rfl) hdep)) dX2_runMain_39 (fun hT z hz => (gwX2_touchUnit (xnd F) 200).2.2.2.1 hT hq0 v8 0 z hz) (fun v10 m9 => ?_)
        refine xj_if_ne (tgt := 62) F dX2_runMain_42 (by decide) ?_ ?_
        · exact jX2_runMain_62 F hdep hr5 q0 m9 hq0
        · refine xj_aload_n F 0 dX2_runMain_45 rfl ?_
          refine xj_get F hq0 lgX2_59 dX2_runMain_46 (fun v11 => ?_)
          refine xj_if_ne (tgt := 62) F dX2_runMain_49 (by decide) ?_ ?_
          · exact jX2_runMain_62 F hdep hr5 q0 m9 hq0
          · refine xj_aload_n F 0 dX2_runMain_52 rfl ?_
            refine xj_dup F dX2_runMain_53 rfl ?_
            refine xj_get F hq0 lgX2_88 dX2_runMain_54 (fun v12 => ?_)
            refine xj_iconst F 1 dX2_runMain_57 (by decide) ?_
            refine xj_iadd F dX2_runMain_58 (fun v13 => ?_)
            refine xj_put F hq0 lpX2_88 dX2_runMain_59 (fun m14 => ?_)
            exact jX2_runMain_62 F hdep hr5 q0 m14 hq0
set_option maxRecDepth 20000 in
set_option maxHeartbeats 4000000 in
theorem wX2_runMain {G : XG} {l : Launch} {d : Nat} (hn : xN G) (hdep : 202 ≤ d) {m0 : XM} (hT : xT G m0) {a0 : Nat} (ha0 : isa G a0 2) : ∀ z, fX2_runMain (xln G) a0 m0 = some z → xMet G l mX2_runMain d [.ref (xad G a0)] m0 (xrV z) := by
  refine xMet_of (by decide +kernel) hn hT (Nat.le_of_ble_eq_true rfl) (fun X F => ?_)
  refine xj_sub (lv' := [(0, .ref (xad G a0))]) [0] rfl ?_
  unfold fX2_runMain
  refine xj_aload_n F 0 dX2_runMain_0 rfl ?_
  refine xj_iconst F 0 dX2_runMain_1 (by decide) ?_
  refine xj_put F ha0 lpX2_91 dX2_runMain_2 (fun m1 => ?_)
  exact jX2_runMain_5 F hdep XF a0 m1 ha0
set_option maxRecDepth 20000 in
set_option maxHeartbeats 4000000 in
theorem wX2_runPlainly {G : XG} {l : Launch} {d : Nat} (hn : xN G) (hdep : 203 ≤ d) {m0 : XM} (hT : xT G m0) {a0 : Nat} {a1 : Nat} (ha0 : isa G a0 2) (ha1 : isa G a1 6) : ∀ z, fX2_runPlainly (xln G) a0 a1 m0 = some z → xMet G l mX2_runPlainly d [.ref (xad G a0), .ref (xad G a1)] m0 (xrV z) := by
  refine xMet_of (by decide +kernel) hn hT (Nat.le_of_ble_eq_true rfl) (fun X F => ?_)
  refine xj_sub (lv' := [(0, .ref (xad G a0)), (1, .ref (xad G a1))]) [0, 1] rfl ?_
  unfold fX2_runPlainly
  refine xj_aload_n F 0 dX2_runPlainly_0 rfl ?_
  refine xj_aload_n F 1 dX2_runPlainly_1 rfl ?_
  refine xj_callVV (b := a0) (As := [.ref (xad G a1)]) (d' := 1) F ha0 lmX2_46 rfl rfl (Nat.le_of_ble_eq_true rfl) (xfit (Nat.le_trans (Nat.le_of_ble_eq_true rfl) hdep)) dX2_runPlainly_2 (fun hT z hz => wX2_reset (xnd F) (Nat.le_refl _) hT (a0 := a0) (a1 := a1) ha0 ha1 z hz) (fun m1 => ?_)
  refine xj_aload_n F 0 dX2_runPlainly_5 rfl ?_
  refine xj_callVV (b := a0) (As := []) (d' := 202) F ha0 lmX2_50 rfl rfl (Nat.le_of_ble_eq_true rfl) (xfit (Nat.le_trans (Nat.le_of_ble_eq_true rfl) hdep)) dX2_runPlainly_6 (fun hT z hz => wX2_runMain (xnd F) (Nat.le_refl _) hT (a0 := a0) ha0 z hz) (fun m2 => ?_)
  exact xj_retV F rfl dX2_runPlainly_9
set_option maxRecDepth 20000 in
set_option maxHeartbeats 4000000 in
theorem jX2_runAhead_7 {G : XG} {l : Launch} {d : Nat} {X : XX} (F : xF (xE G d) G X mX2_runAhead) (hdep : 203 ≤ d) : ∀ (n : Nat) (q0 : Nat) (q2 : Nat) (x3 : Int32) (m0 : XM), isa G q0 2 → isa G q2 10 → xJ (xE G d) (xQ xrV G X mX2_runAhead) G l X mX2_runAhead 7 [(0, .ref (xad G q0)), (2, .ref (xad G q2)), (3, .int x3)] [] m0 (fX2_runAhead_7 (xln G) n q0 q2 x3 m0) := by
  intro n
  induction n with
  | zero => intro q0 q2 x3 m0 hq0 hq2; exact xj_none
  | succ n hr7 =>
    intro q0 q2 x3 m0 hq0 hq2
    unfold fX2_runAhead_7
    generalize hrg7 : (fun q0 q2 x3 m0 => fX2_runAhead_7 (xln G) n q0 q2 x3 m0) = r7
    have hr7 : ∀ (q0 : Nat) (q2 : Nat) (x3 : Int32) (m0 : XM), isa G q0 2 → isa G q2 10 → xJ (xE G d) (xQ xrV G X mX2_runAhead) G l X mX2_runAhead 7 [(0, .ref (xad G q0)), (2, .ref (xad G q2)), (3, .int x3)] [] m0 (r7 q0 q2 x3 m0) := by
      subst hrg7
      exact hr7
    clear hrg7
    refine xj_eq (xv_eq _ _) ?_
    refine xj_iload_n F 2 dX2_runAhead_7 rfl ?_
    refine xj_aload_n F 0 dX2_runAhead_8 rfl ?_
    refine xj_getR F hq0 lgX2_9 dX2_runAhead_9 (fun u1 hu1 => ?_)
    refine xj_get F hu1 lgX2_53 dX2_runAhead_12 (fun v2 => ?_)
    refine xj_icmp_ge (tgt := 45) F dX2_runAhead_15 (by decide) ?_ ?_
    · refine xj_aload_n F 0 dX2_runAhead_45 rfl ?_
      refine xj_callVV (b := q0) (As := []) (d' := 202) F hq0 lmX2_50 rfl rfl (Nat.le_of_ble_eq_true rfl) (xfit (Nat.le_trans (Nat.le_of_ble_eq_true rfl) hdep)) dX2_runAhead_46 (fun hT z hz => wX2_runMain (xnd F) (Nat.le_refl _) hT (a0 := q0) hq0 z hz) (fun m3 => ?_)
      exact xj_retV F rfl dX2_runAhead_49
    · refine xj_iload_n F 2 dX2_runAhead_18 rfl ?_
      refine xj_aload_n F 1 dX2_runAhead_19 rfl ?_
      refine xj_alen F hq2 (by decide) dX2_runAhead_20 (fun v4 => ?_)
      refine xj_icmp_ge (tgt := 45) F dX2_runAhead_21 (by decide) ?_ ?_
      · refine xj_aload_n F 0 dX2_runAhead_45 rfl ?_
        refine xj_callVV (b := q0) (As := []) (d' := 202) F hq0 lmX2_50 rfl rfl (Nat.le_of_ble_eq_true rfl) (xfit (Nat.le_trans (Nat.le_of_ble_eq_true rfl) hdep)) dX2_runAhead_46 (fun hT z hz => wX2_runMain (xnd F) (Nat.le_refl _) hT (a0 := q0) hq0 z hz) (fun m5 => ?_)
        exact xj_retV F rfl dX2_runAhead_49
      · refine xj_aload_n F 0 dX2_runAhead_24 rfl ?_
        refine xj_get F hq0 lgX2_59 dX2_runAhead_25 (fun v6 => ?_)
        refine xj_if_ne (tgt := 45) F dX2_runAhead_28 (by decide) ?_ ?_
        · refine xj_aload_n F 0 dX2_runAhead_45 rfl ?_
          refine xj_callVV (b := q0) (As := []) (d' := 202) F hq0 lmX2_50 rfl rfl (Nat.le_of_ble_eq_true rfl) (xfit (Nat.le_trans (Nat.le_of_ble_eq_true rfl) hdep)) dX2_runAhead_46 (fun hT z hz => wX2_runMain (xnd F) (Nat.le_refl _) hT (a0 := q0) hq0 z hz) (fun m7 => ?_)
          exact xj_retV F rfl dX2_runAhead_49
        · refine xj_aload_n F 0 dX2_runAhead_31 rfl ?_
          refine xj_aload_n F 1 dX2_runAhead_32 rfl ?_
          refine xj_iload_n F 2 dX2_runAhead_33 rfl ?_
          refine xj_iald F hq2 dX2_runAhead_34 (fun v8 => ?_)
          refine xj_callVI (b := q0) (As := [.int v8]) (d' := 201) F hq0 lmX2_63 rfl rfl (Nat.le_of_ble_eq_true rfl) (xfit (Nat.le_trans (Nat.le_of_ble_eq_true rfl) hdep)) dX2_runAhead_35 (fun hT z hz => (gwX2_touchUnit (xnd F) 200).1 hT hq0 v8 0 z hz) (fun v10 m9 => ?_)
          refine xj_pop F dX2_runAhead_38 rfl ?_
          refine xj_iinc F 2 1 (fun v11 => [(3, .int v11), (0, .ref (xad G q0)), (2, .ref (xad G q2))]) dX2_runAhead_39 rfl (by decide) (by decide) (fun _ => rfl) (fun v11 => ?_)
          refine xj_goto (tgt := 7) F dX2_runAhead_42 (by decide) ?_
          refine xj_sub (lv' := [(0, .ref (xad G q0)), (2, .ref (xad G q2)), (3, .int v11)]) [1, 2, 0] rfl ?_
          exact hr7 q0 q2 v11 m9 hq0 hq2
set_option maxRecDepth 20000 in
set_option maxHeartbeats 4000000 in
theorem wX2_runAhead {G : XG} {l : Launch} {d : Nat} (hn : xN G) (hdep : 203 ≤ d) {m0 : XM} (hT : xT G m0) {a0 : Nat} {a1 : Nat} {a2 : Nat} (ha0 : isa G a0 2) (ha1 : isa G a1 6) (ha2 : isa G a2 10) : ∀ z, fX2_runAhead (xln G) a0 a1 a2 m0 = some z → xMet G l mX2_runAhead d [.ref (xad G a0), .ref (xad G a1), .ref (xad G a2)] m0 (xrV z) := by
  refine xMet_of (by decide +kernel) hn hT (Nat.le_of_ble_eq_true rfl) (fun X F => ?_)
  refine xj_sub (lv' := [(0, .ref (xad G a0)), (1, .ref (xad G a1)), (2, .ref (xad G a2))]) [0, 1, 2] rfl ?_
  unfold fX2_runAhead
  refine xj_aload_n F 0 dX2_runAhead_0 rfl ?_
  refine xj_aload_n F 1 dX2_runAhead_1 rfl ?_
  refine xj_callVV (b := a0) (As := [.ref (xad G a1)]) (d' := 1) F ha0 lmX2_46 rfl rfl (Nat.le_of_ble_eq_true rfl) (xfit (Nat.le_trans (Nat.le_of_ble_eq_true rfl) hdep)) dX2_runAhead_2 (fun hT z hz => wX2_reset (xnd F) (Nat.le_refl _) hT (a0 := a0) (a1 := a1) ha0 ha1 z hz) (fun m1 => ?_)
  refine xj_iconst F 0 dX2_runAhead_5 (by decide) ?_
  refine xj_istore_n (lv' := [(3, .int 0), (0, .ref (xad G a0)), (1, .ref (xad G a1)), (2, .ref (xad G a2))]) F dX2_runAhead_6 (by decide) rfl ?_
  refine xj_sub (lv' := [(0, .ref (xad G a0)), (2, .ref (xad G a2)), (3, .int 0)]) [1, 3, 0] rfl ?_
  exact jX2_runAhead_7 F hdep XF a0 a2 0 m1 ha0 ha2
set_option maxRecDepth 20000 in
set_option maxHeartbeats 4000000 in
theorem jX2_countState_28 {G : XG} {l : Launch} {d : Nat} {X : XX} (F : xF (xE G d) G X mX2_countState) (hdep : 0 ≤ d) {r4 : Nat → Int32 → Int32 → Int32 → XM → Option (Int32 × XM)} (hr4 : ∀ (q0 : Nat) (x1 : Int32) (x2 : Int32) (x3 : Int32) (m0 : XM), isa G q0 2 → xJ (xE G d) (xQ xrI G X mX2_countState) G l X mX2_countState 4 [(0, .ref (xad G q0)), (1, .int x1), (2, .int x2), (3, .int x3)] [] m0 (r4 q0 x1 x2 x3 m0)) : ∀ (q0 : Nat) (x1 : Int32) (x2 : Int32) (x3 : Int32) (m0 : XM), isa G q0 2 → xJ (xE G d) (xQ xrI G X mX2_countState) G l X mX2_countState 28 [(0, .ref (xad G q0)), (1, .int x1), (2, .int x2), (3, .int x3)] [] m0 (fX2_countState_28 (xln G) r4 q0 x1 x2 x3 m0) := by
  intro q0 x1 x2 x3 m0 hq0
  unfold fX2_countState_28
  refine xj_iinc F 3 1 (fun v1 => [(3, .int v1), (0, .ref (xad G q0)), (1, .int x1), (2, .int x2)]) dX2_countState_28 rfl (by decide) (by decide) (fun _ => rfl) (fun v1 => ?_)
  refine xj_goto (tgt := 4) F dX2_countState_31 (by decide) ?_
  refine xj_sub (lv' := [(0, .ref (xad G q0)), (1, .int x1), (2, .int x2), (3, .int v1)]) [1, 2, 3, 0] rfl ?_
  exact hr4 q0 x1 x2 v1 m0 hq0
set_option maxRecDepth 20000 in
set_option maxHeartbeats 4000000 in
theorem jX2_countState_4 {G : XG} {l : Launch} {d : Nat} {X : XX} (F : xF (xE G d) G X mX2_countState) (hdep : 0 ≤ d) : ∀ (n : Nat) (q0 : Nat) (x1 : Int32) (x2 : Int32) (x3 : Int32) (m0 : XM), isa G q0 2 → xJ (xE G d) (xQ xrI G X mX2_countState) G l X mX2_countState 4 [(0, .ref (xad G q0)), (1, .int x1), (2, .int x2), (3, .int x3)] [] m0 (fX2_countState_4 (xln G) n q0 x1 x2 x3 m0) := by
  intro n
  induction n with
  | zero => intro q0 x1 x2 x3 m0 hq0; exact xj_none
  | succ n hr4 =>
    intro q0 x1 x2 x3 m0 hq0
    unfold fX2_countState_4
    generalize hrg4 : (fun q0 x1 x2 x3 m0 => fX2_countState_4 (xln G) n q0 x1 x2 x3 m0) = r4
    have hr4 : ∀ (q0 : Nat) (x1 : Int32) (x2 : Int32) (x3 : Int32) (m0 : XM), isa G q0 2 → xJ (xE G d) (xQ xrI G X mX2_countState) G l X mX2_countState 4 [(0, .ref (xad G q0)), (1, .int x1), (2, .int x2), (3, .int x3)] [] m0 (r4 q0 x1 x2 x3 m0) := by
      subst hrg4
      exact hr4
    clear hrg4
    refine xj_eq (xv_eq _ _) ?_
    refine xj_iload_n F 3 dX2_countState_4 rfl ?_
    refine xj_aload_n F 0 dX2_countState_5 rfl ?_
    refine xj_getR F hq0 lgX2_9 dX2_countState_6 (fun u1 hu1 => ?_)
    refine xj_get F hu1 lgX2_53 dX2_countState_9 (fun v2 => ?_)
    refine xj_icmp_ge (tgt := 34) F dX2_countState_12 (by decide) ?_ ?_
    · refine xj_iload_n F 2 dX2_countState_34 rfl ?_
      exact xj_ret F rfl dX2_countState_35
    · refine xj_aload_n F 0 dX2_countState_15 rfl ?_
      refine xj_getR F hq0 lgX2_15 dX2_countState_16 (fun u3 hu3 => ?_)
      refine xj_iload_n F 3 dX2_countState_19 rfl ?_
      refine xj_iald F hu3 dX2_countState_20 (fun v4 => ?_)
      refine xj_iload_n F 1 dX2_countState_21 rfl ?_
      refine xj_icmp_ne (tgt := 28) F dX2_countState_22 (by decide) ?_ ?_
      · exact jX2_countState_28 F hdep hr4 q0 x1 x2 x3 m0 hq0
      · refine xj_iinc F 2 1 (fun v5 => [(2, .int v5), (0, .ref (xad G q0)), (1, .int x1), (3, .int x3)]) dX2_countState_25 rfl (by decide) (by decide) (fun _ => rfl) (fun v5 => ?_)
        refine xj_sub (lv' := [(0, .ref (xad G q0)), (1, .int x1), (2, .int v5), (3, .int x3)]) [1, 2, 0, 3] rfl ?_
        exact jX2_countState_28 F hdep hr4 q0 x1 v5 x3 m0 hq0
set_option maxRecDepth 20000 in
set_option maxHeartbeats 4000000 in
theorem wX2_countState {G : XG} {l : Launch} {d : Nat} (hn : xN G) (hdep : 0 ≤ d) {m0 : XM} (hT : xT G m0) {a0 : Nat} {a1 : Int32} (ha0 : isa G a0 2) : ∀ z, fX2_countState (xln G) a0 a1 m0 = some z → xMet G l mX2_countState d [.ref (xad G a0), .int a1] m0 (xrI z) := by
  refine xMet_of (by decide +kernel) hn hT (Nat.le_of_ble_eq_true rfl) (fun X F => ?_)
  refine xj_sub (lv' := [(0, .ref (xad G a0)), (1, .int a1)]) [0, 1] rfl ?_
  unfold fX2_countState
  refine xj_iconst F 0 dX2_countState_0 (by decide) ?_
  refine xj_istore_n (lv' := [(2, .int 0), (0, .ref (xad G a0)), (1, .int a1)]) F dX2_countState_1 (by decide) rfl ?_
  refine xj_iconst F 0 dX2_countState_2 (by decide) ?_
  refine xj_istore_n (lv' := [(3, .int 0), (2, .int 0), (0, .ref (xad G a0)), (1, .int a1)]) F dX2_countState_3 (by decide) rfl ?_
  refine xj_sub (lv' := [(0, .ref (xad G a0)), (1, .int a1), (2, .int 0), (3, .int 0)]) [2, 3, 1, 0] rfl ?_
  exact jX2_countState_4 F hdep XF a0 a1 0 0 m0 ha0
set_option maxRecDepth 20000 in
set_option maxHeartbeats 4000000 in
theorem wX2_tally {G : XG} {l : Launch} {d : Nat} (hn : xN G) (hdep : 1 ≤ d) {m0 : XM} (hT : xT G m0) {a0 : Nat} {a1 : Int32} (ha0 : isa G a0 2) : ∀ z, fX2_tally (xln G) a0 a1 m0 = some z → xMet G l mX2_tally d [.ref (xad G a0), .int a1] m0 (xrI z) := by
  refine xMet_of (by decide +kernel) hn hT (Nat.le_of_ble_eq_true rfl) (fun X F => ?_)
  refine xj_sub (lv' := [(0, .ref (xad G a0)), (1, .int a1)]) [0, 1] rfl ?_
  unfold fX2_tally
  refine xj_iload_n F 1 dX2_tally_0 rfl ?_
  refine xj_ite (c := a1 = 0) (fun h1 => ?_) (fun h1 => ?_)
  · refine xj_tabIn F 44 dX2_tally_1 (by subst h1; decide) (by subst h1; decide) (by subst h1; rfl) (by decide) ?_
    refine xj_aload_n F 0 dX2_tally_44 rfl ?_
    refine xj_get F ha0 lgX2_82 dX2_tally_45 (fun v2 => ?_)
    exact xj_ret F rfl dX2_tally_48
  · skip
    refine xj_ite (c := a1 = 1) (fun h3 => ?_) (fun h3 => ?_)
    · refine xj_tabIn F 49 dX2_tally_1 (by subst h3; decide) (by subst h3; decide) (by subst h3; rfl) (by decide) ?_
      refine xj_aload_n F 0 dX2_tally_49 rfl ?_
      refine xj_get F ha0 lgX2_85 dX2_tally_50 (fun v4 => ?_)
      exact xj_ret F rfl dX2_tally_53
    · skip
      refine xj_ite (c := a1 = 2) (fun h5 => ?_) (fun h5 => ?_)
      · refine xj_tabIn F 54 dX2_tally_1 (by subst h5; decide) (by subst h5; decide) (by subst h5; rfl) (by decide) ?_
        refine xj_aload_n F 0 dX2_tally_54 rfl ?_
        refine xj_get F ha0 lgX2_88 dX2_tally_55 (fun v6 => ?_)
        exact xj_ret F rfl dX2_tally_58
      · skip
        refine xj_ite (c := a1 = 3) (fun h7 => ?_) (fun h7 => ?_)
        · refine xj_tabIn F 59 dX2_tally_1 (by subst h7; decide) (by subst h7; decide) (by subst h7; rfl) (by decide) ?_
          refine xj_aload_n F 0 dX2_tally_59 rfl ?_
          refine xj_get F ha0 lgX2_73 dX2_tally_60 (fun v8 => ?_)
          exact xj_ret F rfl dX2_tally_63
        · skip
          refine xj_ite (c := a1 = 4) (fun h9 => ?_) (fun h9 => ?_)
          · refine xj_tabIn F 64 dX2_tally_1 (by subst h9; decide) (by subst h9; decide) (by subst h9; rfl) (by decide) ?_
            refine xj_aload_n F 0 dX2_tally_64 rfl ?_
            refine xj_iconst F 2 dX2_tally_65 (by decide) ?_
            refine xj_callVI (b := a0) (As := [.int 2]) (d' := 0) F ha0 lmX2_103 rfl rfl (Nat.le_of_ble_eq_true rfl) (xfit (Nat.le_trans (Nat.le_of_ble_eq_true rfl) hdep)) dX2_tally_66 (fun hT z hz => wX2_countState (xnd F) (Nat.le_refl _) hT (a0 := a0) (a1 := 2) ha0 z hz) (fun v11 m10 => ?_)
            exact xj_ret F rfl dX2_tally_69
          · skip
            refine xj_ite (c := a1 = 5) (fun h12 => ?_) (fun h12 => ?_)
            · refine xj_tabIn F 70 dX2_tally_1 (by subst h12; decide) (by subst h12; decide) (by subst h12; rfl) (by decide) ?_
              refine xj_aload_n F 0 dX2_tally_70 rfl ?_
              refine xj_iconst F 3 dX2_tally_71 (by decide) ?_
              refine xj_callVI (b := a0) (As := [.int 3]) (d' := 0) F ha0 lmX2_103 rfl rfl (Nat.le_of_ble_eq_true rfl) (xfit (Nat.le_trans (Nat.le_of_ble_eq_true rfl) hdep)) dX2_tally_72 (fun hT z hz => wX2_countState (xnd F) (Nat.le_refl _) hT (a0 := a0) (a1 := 3) ha0 z hz) (fun v14 m13 => ?_)
              exact xj_ret F rfl dX2_tally_75
            · skip
              refine xj_ite (c := a1 = 6) (fun h15 => ?_) (fun h15 => ?_)
              · refine xj_tabIn F 76 dX2_tally_1 (by subst h15; decide) (by subst h15; decide) (by subst h15; rfl) (by decide) ?_
                refine xj_aload_n F 0 dX2_tally_76 rfl ?_
                refine xj_get F ha0 lgX2_79 dX2_tally_77 (fun v16 => ?_)
                exact xj_ret F rfl dX2_tally_80
              · skip
                have eh1 := xne 0 h1 rfl
                have eh3 := xne 1 h3 rfl
                have eh5 := xne 2 h5 rfl
                have eh7 := xne 3 h7 rfl
                have eh9 := xne 4 h9 rfl
                have eh12 := xne 5 h12 rfl
                have eh15 := xne 6 h15 rfl
                refine xj_tabOut F 81 dX2_tally_1 (by omega) (by decide) ?_
                refine xj_aload_n F 0 dX2_tally_81 rfl ?_
                refine xj_get F ha0 lgX2_59 dX2_tally_82 (fun v17 => ?_)
                refine xj_if_eq (tgt := 92) F dX2_tally_85 (by decide) ?_ ?_
                · refine xj_iconst F 0 dX2_tally_92 (by decide) ?_
                  exact xj_ret F rfl dX2_tally_93
                · refine xj_iconst F 1 dX2_tally_88 (by decide) ?_
                  refine xj_goto (tgt := 93) F dX2_tally_89 (by decide) ?_
                  exact xj_ret F rfl dX2_tally_93
set_option maxRecDepth 20000 in
set_option maxHeartbeats 4000000 in
theorem jX2_agreesIn_53 {G : XG} {l : Launch} {d : Nat} {X : XX} (F : xF (xE G d) G X mX2_agreesIn) (hdep : 0 ≤ d) {r5 : Nat → Int32 → Nat → Int32 → XM → Option (Int32 × XM)} (hr5 : ∀ (q0 : Nat) (x1 : Int32) (q2 : Nat) (x3 : Int32) (m0 : XM), isa G q0 2 → isa G q2 2 → xJ (xE G d) (xQ xrI G X mX2_agreesIn) G l X mX2_agreesIn 5 [(0, .ref (xad G q0)), (1, .int x1), (2, .ref (xad G q2)), (3, .int x3)] [] m0 (r5 q0 x1 q2 x3 m0)) : ∀ (q0 : Nat) (x1 : Int32) (q2 : Nat) (x3 : Int32) (m0 : XM), isa G q0 2 → isa G q2 2 → xJ (xE G d) (xQ xrI G X mX2_agreesIn) G l X mX2_agreesIn 53 [(0, .ref (xad G q0)), (1, .int x1), (2, .ref (xad G q2)), (3, .int x3)] [] m0 (fX2_agreesIn_53 (xln G) r5 q0 x1 q2 x3 m0) := by
  intro q0 x1 q2 x3 m0 hq0 hq2
  unfold fX2_agreesIn_53
  refine xj_iinc F 3 1 (fun v1 => [(3, .int v1), (0, .ref (xad G q0)), (1, .int x1), (2, .ref (xad G q2))]) dX2_agreesIn_53 rfl (by decide) (by decide) (fun _ => rfl) (fun v1 => ?_)
  refine xj_goto (tgt := 5) F dX2_agreesIn_56 (by decide) ?_
  refine xj_sub (lv' := [(0, .ref (xad G q0)), (1, .int x1), (2, .ref (xad G q2)), (3, .int v1)]) [1, 2, 3, 0] rfl ?_
  exact hr5 q0 x1 q2 v1 m0 hq0 hq2
set_option maxRecDepth 20000 in
set_option maxHeartbeats 4000000 in
theorem jX2_agreesIn_5 {G : XG} {l : Launch} {d : Nat} {X : XX} (F : xF (xE G d) G X mX2_agreesIn) (hdep : 0 ≤ d) : ∀ (n : Nat) (q0 : Nat) (x1 : Int32) (q2 : Nat) (x3 : Int32) (m0 : XM), isa G q0 2 → isa G q2 2 → xJ (xE G d) (xQ xrI G X mX2_agreesIn) G l X mX2_agreesIn 5 [(0, .ref (xad G q0)), (1, .int x1), (2, .ref (xad G q2)), (3, .int x3)] [] m0 (fX2_agreesIn_5 (xln G) n q0 x1 q2 x3 m0) := by
  intro n
  induction n with
  | zero => intro q0 x1 q2 x3 m0 hq0 hq2; exact xj_none
  | succ n hr5 =>
    intro q0 x1 q2 x3 m0 hq0 hq2
    unfold fX2_agreesIn_5
    generalize hrg5 : (fun q0 x1 q2 x3 m0 => fX2_agreesIn_5 (xln G) n q0 x1 q2 x3 m0) = r5
    have hr5 : ∀ (q0 : Nat) (x1 : Int32) (q2 : Nat) (x3 : Int32) (m0 : XM), isa G q0 2 → isa G q2 2 → xJ (xE G d) (xQ xrI G X mX2_agreesIn) G l X mX2_agreesIn 5 [(0, .ref (xad G q0)), (1, .int x1), (2, .ref (xad G q2)), (3, .int x3)] [] m0 (r5 q0 x1 q2 x3 m0) := by
      subst hrg5
      exact hr5
    clear hrg5
    refine xj_eq (xv_eq _ _) ?_
    refine xj_iload_n F 3 dX2_agreesIn_5 rfl ?_
    refine xj_iload_n F 1 dX2_agreesIn_6 rfl ?_
    refine xj_bipush F 12 dX2_agreesIn_7 (by decide) ?_
    refine xj_imul F dX2_agreesIn_9 (fun v1 => ?_)
    refine xj_aload_n F 0 dX2_agreesIn_10 rfl ?_
    refine xj_getR F hq0 lgX2_9 dX2_agreesIn_11 (fun u2 hu2 => ?_)
    refine xj_getR F hu2 lgX2_111 dX2_agreesIn_14 (fun u3 hu3 => ?_)
    refine xj_iload_n F 1 dX2_agreesIn_17 rfl ?_
    refine xj_iald F hu3 dX2_agreesIn_18 (fun v4 => ?_)
    refine xj_iadd F dX2_agreesIn_19 (fun v5 => ?_)
    refine xj_icmp_ge (tgt := 59) F dX2_agreesIn_20 (by decide) ?_ ?_
    · refine xj_iconst F 1 dX2_agreesIn_59 (by decide) ?_
      exact xj_retZ F rfl rfl dX2_agreesIn_60
    · refine xj_aload_n F 0 dX2_agreesIn_23 rfl ?_
      refine xj_getR F hq0 lgX2_9 dX2_agreesIn_24 (fun u6 hu6 => ?_)
      refine xj_getR F hu6 lgX2_114 dX2_agreesIn_27 (fun u7 hu7 => ?_)
      refine xj_iload_n F 3 dX2_agreesIn_30 rfl ?_
      refine xj_iald F hu7 dX2_agreesIn_31 (fun v8 => ?_)
      refine xj_iconst F 1 dX2_agreesIn_32 (by decide) ?_
      refine xj_icmp_ne (tgt := 53) F dX2_agreesIn_33 (by decide) ?_ ?_
      · exact jX2_agreesIn_53 F hdep hr5 q0 x1 q2 x3 m0 hq0 hq2
      · refine xj_aload_n F 0 dX2_agreesIn_36 rfl ?_
        refine xj_getR F hq0 lgX2_19 dX2_agreesIn_37 (fun u9 hu9 => ?_)
        refine xj_iload_n F 3 dX2_agreesIn_40 rfl ?_
        refine xj_iald F hu9 dX2_agreesIn_41 (fun v10 => ?_)
        refine xj_aload_n F 2 dX2_agreesIn_42 rfl ?_
        refine xj_getR F hq2 lgX2_19 dX2_agreesIn_43 (fun u11 hu11 => ?_)
        refine xj_iload_n F 3 dX2_agreesIn_46 rfl ?_
        refine xj_iald F hu11 dX2_agreesIn_47 (fun v12 => ?_)
        refine xj_icmp_eq (tgt := 53) F dX2_agreesIn_48 (by decide) ?_ ?_
        · exact jX2_agreesIn_53 F hdep hr5 q0 x1 q2 x3 m0 hq0 hq2
        · refine xj_iconst F 0 dX2_agreesIn_51 (by decide) ?_
          exact xj_retZ F rfl rfl dX2_agreesIn_52
set_option maxRecDepth 20000 in
set_option maxHeartbeats 4000000 in
theorem wX2_agreesIn {G : XG} {l : Launch} {d : Nat} (hn : xN G) (hdep : 0 ≤ d) {m0 : XM} (hT : xT G m0) {a0 : Nat} {a1 : Int32} {a2 : Nat} (ha0 : isa G a0 2) (ha2 : isa G a2 2) : ∀ z, fX2_agreesIn (xln G) a0 a1 a2 m0 = some z → xMet G l mX2_agreesIn d [.ref (xad G a0), .int a1, .ref (xad G a2)] m0 (xrI z) := by
  refine xMet_of (by decide +kernel) hn hT (Nat.le_of_ble_eq_true rfl) (fun X F => ?_)
  refine xj_sub (lv' := [(0, .ref (xad G a0)), (1, .int a1), (2, .ref (xad G a2))]) [0, 1, 2] rfl ?_
  unfold fX2_agreesIn
  refine xj_iload_n F 1 dX2_agreesIn_0 rfl ?_
  refine xj_bipush F 12 dX2_agreesIn_1 (by decide) ?_
  refine xj_imul F dX2_agreesIn_3 (fun v1 => ?_)
  refine xj_istore_n (lv' := [(3, .int v1), (0, .ref (xad G a0)), (1, .int a1), (2, .ref (xad G a2))]) F dX2_agreesIn_4 (by decide) rfl ?_
  refine xj_sub (lv' := [(0, .ref (xad G a0)), (1, .int a1), (2, .ref (xad G a2)), (3, .int v1)]) [1, 2, 3, 0] rfl ?_
  exact jX2_agreesIn_5 F hdep XF a0 a1 a2 v1 m0 ha0 ha2
set_option maxRecDepth 20000 in
set_option maxHeartbeats 4000000 in
theorem jX2_agreesWhereDone_34 {G : XG} {l : Launch} {d : Nat} {X : XX} (F : xF (xE G d) G X mX2_agreesWhereDone) (hdep : 1 ≤ d) {r2 : Nat → Nat → Int32 → XM → Option (Int32 × XM)} (hr2 : ∀ (q0 : Nat) (q1 : Nat) (x2 : Int32) (m0 : XM), isa G q0 2 → isa G q1 2 → xJ (xE G d) (xQ xrI G X mX2_agreesWhereDone) G l X mX2_agreesWhereDone 2 [(0, .ref (xad G q0)), (1, .ref (xad G q1)), (2, .int x2)] [] m0 (r2 q0 q1 x2 m0)) : ∀ (q0 : Nat) (q1 : Nat) (x2 : Int32) (m0 : XM), isa G q0 2 → isa G q1 2 → xJ (xE G d) (xQ xrI G X mX2_agreesWhereDone) G l X mX2_agreesWhereDone 34 [(0, .ref (xad G q0)), (1, .ref (xad G q1)), (2, .int x2)] [] m0 (fX2_agreesWhereDone_34 (xln G) r2 q0 q1 x2 m0) := by
  intro q0 q1 x2 m0 hq0 hq1
  unfold fX2_agreesWhereDone_34
  refine xj_iinc F 2 1 (fun v1 => [(2, .int v1), (0, .ref (xad G q0)), (1, .ref (xad G q1))]) dX2_agreesWhereDone_34 rfl (by decide) (by decide) (fun _ => rfl) (fun v1 => ?_)
  refine xj_goto (tgt := 2) F dX2_agreesWhereDone_37 (by decide) ?_
  refine xj_sub (lv' := [(0, .ref (xad G q0)), (1, .ref (xad G q1)), (2, .int v1)]) [1, 2, 0] rfl ?_
  exact hr2 q0 q1 v1 m0 hq0 hq1
set_option maxRecDepth 20000 in
set_option maxHeartbeats 4000000 in
theorem jX2_agreesWhereDone_2 {G : XG} {l : Launch} {d : Nat} {X : XX} (F : xF (xE G d) G X mX2_agreesWhereDone) (hdep : 1 ≤ d) : ∀ (n : Nat) (q0 : Nat) (q1 : Nat) (x2 : Int32) (m0 : XM), isa G q0 2 → isa G q1 2 → xJ (xE G d) (xQ xrI G X mX2_agreesWhereDone) G l X mX2_agreesWhereDone 2 [(0, .ref (xad G q0)), (1, .ref (xad G q1)), (2, .int x2)] [] m0 (fX2_agreesWhereDone_2 (xln G) n q0 q1 x2 m0) := by
  intro n
  induction n with
  | zero => intro q0 q1 x2 m0 hq0 hq1; exact xj_none
  | succ n hr2 =>
    intro q0 q1 x2 m0 hq0 hq1
    unfold fX2_agreesWhereDone_2
    generalize hrg2 : (fun q0 q1 x2 m0 => fX2_agreesWhereDone_2 (xln G) n q0 q1 x2 m0) = r2
    have hr2 : ∀ (q0 : Nat) (q1 : Nat) (x2 : Int32) (m0 : XM), isa G q0 2 → isa G q1 2 → xJ (xE G d) (xQ xrI G X mX2_agreesWhereDone) G l X mX2_agreesWhereDone 2 [(0, .ref (xad G q0)), (1, .ref (xad G q1)), (2, .int x2)] [] m0 (r2 q0 q1 x2 m0) := by
      subst hrg2
      exact hr2
    clear hrg2
    refine xj_eq (xv_eq _ _) ?_
    refine xj_iload_n F 2 dX2_agreesWhereDone_2 rfl ?_
    refine xj_aload_n F 0 dX2_agreesWhereDone_3 rfl ?_
    refine xj_getR F hq0 lgX2_9 dX2_agreesWhereDone_4 (fun u1 hu1 => ?_)
    refine xj_get F hu1 lgX2_53 dX2_agreesWhereDone_7 (fun v2 => ?_)
    refine xj_icmp_ge (tgt := 40) F dX2_agreesWhereDone_10 (by decide) ?_ ?_
    · refine xj_iconst F 1 dX2_agreesWhereDone_40 (by decide) ?_
      exact xj_retZ F rfl rfl dX2_agreesWhereDone_41
    · refine xj_aload_n F 0 dX2_agreesWhereDone_13 rfl ?_
      refine xj_getR F hq0 lgX2_15 dX2_agreesWhereDone_14 (fun u3 hu3 => ?_)
      refine xj_iload_n F 2 dX2_agreesWhereDone_17 rfl ?_
      refine xj_iald F hu3 dX2_agreesWhereDone_18 (fun v4 => ?_)
      refine xj_iconst F 2 dX2_agreesWhereDone_19 (by decide) ?_
      refine xj_icmp_ne (tgt := 34) F dX2_agreesWhereDone_20 (by decide) ?_ ?_
      · exact jX2_agreesWhereDone_34 F hdep hr2 q0 q1 x2 m0 hq0 hq1
      · refine xj_aload_n F 0 dX2_agreesWhereDone_23 rfl ?_
        refine xj_iload_n F 2 dX2_agreesWhereDone_24 rfl ?_
        refine xj_aload_n F 1 dX2_agreesWhereDone_25 rfl ?_
        refine xj_callVI (b := q0) (As := [.int x2, .ref (xad G q1)]) (d' := 0) F hq0 lmX2_107 rfl rfl (Nat.le_of_ble_eq_true rfl) (xfit (Nat.le_trans (Nat.le_of_ble_eq_true rfl) hdep)) dX2_agreesWhereDone_26 (fun hT z hz => wX2_agreesIn (xnd F) (Nat.le_refl _) hT (a0 := q0) (a1 := x2) (a2 := q1) hq0 hq1 z hz) (fun v6 m5 => ?_)
        refine xj_if_ne (tgt := 34) F dX2_agreesWhereDone_29 (by decide) ?_ ?_
        · exact jX2_agreesWhereDone_34 F hdep hr2 q0 q1 x2 m5 hq0 hq1
        · refine xj_iconst F 0 dX2_agreesWhereDone_32 (by decide) ?_
          exact xj_retZ F rfl rfl dX2_agreesWhereDone_33
set_option maxRecDepth 20000 in
set_option maxHeartbeats 4000000 in
theorem wX2_agreesWhereDone {G : XG} {l : Launch} {d : Nat} (hn : xN G) (hdep : 1 ≤ d) {m0 : XM} (hT : xT G m0) {a0 : Nat} {a1 : Nat} (ha0 : isa G a0 2) (ha1 : isa G a1 2) : ∀ z, fX2_agreesWhereDone (xln G) a0 a1 m0 = some z → xMet G l mX2_agreesWhereDone d [.ref (xad G a0), .ref (xad G a1)] m0 (xrI z) := by
  refine xMet_of (by decide +kernel) hn hT (Nat.le_of_ble_eq_true rfl) (fun X F => ?_)
  refine xj_sub (lv' := [(0, .ref (xad G a0)), (1, .ref (xad G a1))]) [0, 1] rfl ?_
  unfold fX2_agreesWhereDone
  refine xj_iconst F 0 dX2_agreesWhereDone_0 (by decide) ?_
  refine xj_istore_n (lv' := [(2, .int 0), (0, .ref (xad G a0)), (1, .ref (xad G a1))]) F dX2_agreesWhereDone_1 (by decide) rfl ?_
  refine xj_sub (lv' := [(0, .ref (xad G a0)), (1, .ref (xad G a1)), (2, .int 0)]) [1, 2, 0] rfl ?_
  exact jX2_agreesWhereDone_2 F hdep XF a0 a1 0 m0 ha0 ha1
