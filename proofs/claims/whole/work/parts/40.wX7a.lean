set_option maxRecDepth 20000 in
set_option maxHeartbeats 4000000 in
theorem wX7_noteFunction {G : XG} {l : Launch} {d : Nat} (hn : xN G) (hdep : 0 ≤ d) {m0 : XM} (hT : xT G m0) {a0 : Nat} {a1 : Int32} (ha0 : isa G a0 7) : ∀ z, fX7_noteFunction (xln G) a0 a1 m0 = some z → xMet G l mX7_noteFunction d [.ref (xad G a0), .int a1] m0 (xrV z) := by
  refine xMet_of (by decide +kernel) hn hT (Nat.le_of_ble_eq_true rfl) (fun X F => ?_)
  refine xj_sub (lv' := [(0, .ref (xad G a0)), (1, .int a1)]) [0, 1] rfl ?_
  unfold fX7_noteFunction
  refine xj_aload_n F 0 dX7_noteFunction_0 rfl ?_
  refine xj_getR F ha0 lgX7_21 dX7_noteFunction_1 (fun u1 hu1 => ?_)
  refine xj_iload_n F 1 dX7_noteFunction_4 rfl ?_
  refine xj_iald F hu1 dX7_noteFunction_5 (fun v2 => ?_)
  refine xj_if_ne (tgt := 36) F dX7_noteFunction_6 (by decide) ?_ ?_
  · exact xj_retV F rfl dX7_noteFunction_36
  · refine xj_aload_n F 0 dX7_noteFunction_9 rfl ?_
    refine xj_getR F ha0 lgX7_21 dX7_noteFunction_10 (fun u3 hu3 => ?_)
    refine xj_iload_n F 1 dX7_noteFunction_13 rfl ?_
    refine xj_iconst F 1 dX7_noteFunction_14 (by decide) ?_
    refine xj_iast F hu3 dX7_noteFunction_15 (fun m4 => ?_)
    refine xj_aload_n F 0 dX7_noteFunction_16 rfl ?_
    refine xj_getR F ha0 lgX7_18 dX7_noteFunction_17 (fun u5 hu5 => ?_)
    refine xj_aload_n F 0 dX7_noteFunction_20 rfl ?_
    refine xj_get F ha0 lgX7_44 dX7_noteFunction_21 (fun v6 => ?_)
    refine xj_iload_n F 1 dX7_noteFunction_24 rfl ?_
    refine xj_iast F hu5 dX7_noteFunction_25 (fun m7 => ?_)
    refine xj_aload_n F 0 dX7_noteFunction_26 rfl ?_
    refine xj_dup F dX7_noteFunction_27 rfl ?_
    refine xj_get F ha0 lgX7_44 dX7_noteFunction_28 (fun v8 => ?_)
    refine xj_iconst F 1 dX7_noteFunction_31 (by decide) ?_
    refine xj_iadd F dX7_noteFunction_32 (fun v9 => ?_)
    refine xj_put F ha0 lpX7_44 dX7_noteFunction_33 (fun m10 => ?_)
    exact xj_retV F rfl dX7_noteFunction_36
set_option maxRecDepth 20000 in
set_option maxHeartbeats 4000000 in
theorem jX7_addDeed_107 {G : XG} {l : Launch} {d : Nat} {X : XX} (F : xF (xE G d) G X mX7_addDeed) (hdep : 1 ≤ d) {r37 : Nat → Nat → Int32 → Int32 → XM → Option XM} (hr37 : ∀ (q0 : Nat) (q1 : Nat) (x2 : Int32) (x3 : Int32) (m0 : XM), isa G q0 7 → isa G q1 5 → xJ (xE G d) (xQ xrV G X mX7_addDeed) G l X mX7_addDeed 37 [(0, .ref (xad G q0)), (1, .ref (xad G q1)), (2, .int x2), (3, .int x3)] [] m0 (r37 q0 q1 x2 x3 m0)) : ∀ (q0 : Nat) (q1 : Nat) (x2 : Int32) (x3 : Int32) (m0 : XM), isa G q0 7 → isa G q1 5 → xJ (xE G d) (xQ xrV G X mX7_addDeed) G l X mX7_addDeed 107 [(0, .ref (xad G q0)), (1, .ref (xad G q1)), (2, .int x2), (3, .int x3)] [] m0 (fX7_addDeed_107 (xln G) r37 q0 q1 x2 x3 m0) := by
  intro q0 q1 x2 x3 m0 hq0 hq1
  unfold fX7_addDeed_107
  refine xj_iinc F 3 1 (fun v1 => [(3, .int v1), (0, .ref (xad G q0)), (1, .ref (xad G q1)), (2, .int x2)]) dX7_addDeed_107 rfl (by decide) (by decide) (fun _ => rfl) (fun v1 => ?_)
  refine xj_goto (tgt := 37) F dX7_addDeed_110 (by decide) ?_
  refine xj_sub (lv' := [(0, .ref (xad G q0)), (1, .ref (xad G q1)), (2, .int x2), (3, .int v1)]) [1, 2, 3, 0] rfl ?_
  exact hr37 q0 q1 x2 v1 m0 hq0 hq1
set_option maxRecDepth 20000 in
set_option maxHeartbeats 4000000 in
theorem jX7_addDeed_87 {G : XG} {l : Launch} {d : Nat} {X : XX} (F : xF (xE G d) G X mX7_addDeed) (hdep : 1 ≤ d) {r37 : Nat → Nat → Int32 → Int32 → XM → Option XM} (hr37 : ∀ (q0 : Nat) (q1 : Nat) (x2 : Int32) (x3 : Int32) (m0 : XM), isa G q0 7 → isa G q1 5 → xJ (xE G d) (xQ xrV G X mX7_addDeed) G l X mX7_addDeed 37 [(0, .ref (xad G q0)), (1, .ref (xad G q1)), (2, .int x2), (3, .int x3)] [] m0 (r37 q0 q1 x2 x3 m0)) : ∀ (q0 : Nat) (q1 : Nat) (x2 : Int32) (x3 : Int32) (m0 : XM), isa G q0 7 → isa G q1 5 → xJ (xE G d) (xQ xrV G X mX7_addDeed) G l X mX7_addDeed 87 [(0, .ref (xad G q0)), (1, .ref (xad G q1)), (2, .int x2), (3, .int x3)] [] m0 (fX7_addDeed_87 (xln G) r37 q0 q1 x2 x3 m0) := by
  intro q0 q1 x2 x3 m0 hq0 hq1
  unfold fX7_addDeed_87
  refine xj_aload_n F 1 dX7_addDeed_87 rfl ?_
  refine xj_getR F hq1 lgX7_87 dX7_addDeed_88 (fun u1 hu1 => ?_)
  refine xj_iload_n F 3 dX7_addDeed_91 rfl ?_
  refine xj_iald F hu1 dX7_addDeed_92 (fun v2 => ?_)
  refine xj_iconst F 2 dX7_addDeed_93 (by decide) ?_
  refine xj_icmp_ne (tgt := 107) F dX7_addDeed_94 (by decide) ?_ ?_
  · exact jX7_addDeed_107 F hdep hr37 q0 q1 x2 x3 m0 hq0 hq1
  · refine xj_aload_n F 0 dX7_addDeed_97 rfl ?_
    refine xj_aload_n F 1 dX7_addDeed_98 rfl ?_
    refine xj_getR F hq1 lgX7_90 dX7_addDeed_99 (fun u3 hu3 => ?_)
    refine xj_iload_n F 3 dX7_addDeed_102 rfl ?_
    refine xj_iald F hu3 dX7_addDeed_103 (fun v4 => ?_)
    refine xj_callVV (b := q0) (As := [.int v4]) (d' := 0) F hq0 lmX7_93 rfl rfl (Nat.le_of_ble_eq_true rfl) (xfit (Nat.le_trans (Nat.le_of_ble_eq_true rfl) hdep)) dX7_addDeed_104 (fun hT z hz => wX7_noteFunction (xnd F) (Nat.le_refl _) hT (a0 := q0) (a1 := v4) hq0 z hz) (fun m5 => ?_)
    exact jX7_addDeed_107 F hdep hr37 q0 q1 x2 x3 m5 hq0 hq1
set_option maxRecDepth 20000 in
set_option maxHeartbeats 4000000 in
theorem jX7_addDeed_67 {G : XG} {l : Launch} {d : Nat} {X : XX} (F : xF (xE G d) G X mX7_addDeed) (hdep : 1 ≤ d) {r37 : Nat → Nat → Int32 → Int32 → XM → Option XM} (hr37 : ∀ (q0 : Nat) (q1 : Nat) (x2 : Int32) (x3 : Int32) (m0 : XM), isa G q0 7 → isa G q1 5 → xJ (xE G d) (xQ xrV G X mX7_addDeed) G l X mX7_addDeed 37 [(0, .ref (xad G q0)), (1, .ref (xad G q1)), (2, .int x2), (3, .int x3)] [] m0 (r37 q0 q1 x2 x3 m0)) : ∀ (q0 : Nat) (q1 : Nat) (x2 : Int32) (x3 : Int32) (m0 : XM), isa G q0 7 → isa G q1 5 → xJ (xE G d) (xQ xrV G X mX7_addDeed) G l X mX7_addDeed 67 [(0, .ref (xad G q0)), (1, .ref (xad G q1)), (2, .int x2), (3, .int x3)] [] m0 (fX7_addDeed_67 (xln G) r37 q0 q1 x2 x3 m0) := by
  intro q0 q1 x2 x3 m0 hq0 hq1
  unfold fX7_addDeed_67
  refine xj_aload_n F 0 dX7_addDeed_67 rfl ?_
  refine xj_dup F dX7_addDeed_68 rfl ?_
  refine xj_get F hq0 lgX7_41 dX7_addDeed_69 (fun v1 => ?_)
  refine xj_iconst F 1 dX7_addDeed_72 (by decide) ?_
  refine xj_aload_n F 1 dX7_addDeed_73 rfl ?_
  refine xj_getR F hq1 lgX7_90 dX7_addDeed_74 (fun u2 hu2 => ?_)
  refine xj_iload_n F 3 dX7_addDeed_77 rfl ?_
  refine xj_iald F hu2 dX7_addDeed_78 (fun v3 => ?_)
  refine xj_bipush F 12 dX7_addDeed_79 (by decide) ?_
  refine xj_idiv F dX7_addDeed_81 (fun v4 => ?_)
  refine xj_ishl F dX7_addDeed_82 (fun v5 => ?_)
  refine xj_ior F dX7_addDeed_83 (fun v6 => ?_)
  refine xj_put F hq0 lpX7_41 dX7_addDeed_84 (fun m7 => ?_)
  exact jX7_addDeed_87 F hdep hr37 q0 q1 x2 x3 m7 hq0 hq1
set_option maxRecDepth 20000 in
set_option maxHeartbeats 4000000 in
theorem jX7_addDeed_37 {G : XG} {l : Launch} {d : Nat} {X : XX} (F : xF (xE G d) G X mX7_addDeed) (hdep : 1 ≤ d) : ∀ (n : Nat) (q0 : Nat) (q1 : Nat) (x2 : Int32) (x3 : Int32) (m0 : XM), isa G q0 7 → isa G q1 5 → xJ (xE G d) (xQ xrV G X mX7_addDeed) G l X mX7_addDeed 37 [(0, .ref (xad G q0)), (1, .ref (xad G q1)), (2, .int x2), (3, .int x3)] [] m0 (fX7_addDeed_37 (xln G) n q0 q1 x2 x3 m0) := by
  intro n
  induction n with
  | zero => intro q0 q1 x2 x3 m0 hq0 hq1; exact xj_none
  | succ n hr37 =>
    intro q0 q1 x2 x3 m0 hq0 hq1
    unfold fX7_addDeed_37
    generalize hrg37 : (fun q0 q1 x2 x3 m0 => fX7_addDeed_37 (xln G) n q0 q1 x2 x3 m0) = r37
    have hr37 : ∀ (q0 : Nat) (q1 : Nat) (x2 : Int32) (x3 : Int32) (m0 : XM), isa G q0 7 → isa G q1 5 → xJ (xE G d) (xQ xrV G X mX7_addDeed) G l X mX7_addDeed 37 [(0, .ref (xad G q0)), (1, .ref (xad G q1)), (2, .int x2), (3, .int x3)] [] m0 (r37 q0 q1 x2 x3 m0) := by
      subst hrg37
      exact hr37
    clear hrg37
    refine xj_eq (xv_eq _ _) ?_
    refine xj_iload_n F 3 dX7_addDeed_37 rfl ?_
    refine xj_aload_n F 1 dX7_addDeed_38 rfl ?_
    refine xj_getR F hq1 lgX7_84 dX7_addDeed_39 (fun u1 hu1 => ?_)
    refine xj_iload_n F 2 dX7_addDeed_42 rfl ?_
    refine xj_iald F hu1 dX7_addDeed_43 (fun v2 => ?_)
    refine xj_icmp_ge (tgt := 113) F dX7_addDeed_44 (by decide) ?_ ?_
    · exact xj_retV F rfl dX7_addDeed_113
    · refine xj_aload_n F 1 dX7_addDeed_47 rfl ?_
      refine xj_getR F hq1 lgX7_87 dX7_addDeed_48 (fun u3 hu3 => ?_)
      refine xj_iload_n F 3 dX7_addDeed_51 rfl ?_
      refine xj_iald F hu3 dX7_addDeed_52 (fun v4 => ?_)
      refine xj_iconst F 1 dX7_addDeed_53 (by decide) ?_
      refine xj_icmp_eq (tgt := 67) F dX7_addDeed_54 (by decide) ?_ ?_
      · exact jX7_addDeed_67 F hdep hr37 q0 q1 x2 x3 m0 hq0 hq1
      · refine xj_aload_n F 1 dX7_addDeed_57 rfl ?_
        refine xj_getR F hq1 lgX7_87 dX7_addDeed_58 (fun u5 hu5 => ?_)
        refine xj_iload_n F 3 dX7_addDeed_61 rfl ?_
        refine xj_iald F hu5 dX7_addDeed_62 (fun v6 => ?_)
        refine xj_iconst F 2 dX7_addDeed_63 (by decide) ?_
        refine xj_icmp_ne (tgt := 87) F dX7_addDeed_64 (by decide) ?_ ?_
        · exact jX7_addDeed_87 F hdep hr37 q0 q1 x2 x3 m0 hq0 hq1
        · exact jX7_addDeed_67 F hdep hr37 q0 q1 x2 x3 m0 hq0 hq1
set_option maxRecDepth 20000 in
set_option maxHeartbeats 4000000 in
theorem jX7_addDeed_30 {G : XG} {l : Launch} {d : Nat} {X : XX} (F : xF (xE G d) G X mX7_addDeed) (hdep : 1 ≤ d) : ∀ (q0 : Nat) (q1 : Nat) (x2 : Int32) (m0 : XM), isa G q0 7 → isa G q1 5 → xJ (xE G d) (xQ xrV G X mX7_addDeed) G l X mX7_addDeed 30 [(0, .ref (xad G q0)), (1, .ref (xad G q1)), (2, .int x2)] [] m0 (fX7_addDeed_30 (xln G) q0 q1 x2 m0) := by
  intro q0 q1 x2 m0 hq0 hq1
  unfold fX7_addDeed_30
  refine xj_aload_n F 1 dX7_addDeed_30 rfl ?_
  refine xj_getR F hq1 lgX7_81 dX7_addDeed_31 (fun u1 hu1 => ?_)
  refine xj_iload_n F 2 dX7_addDeed_34 rfl ?_
  refine xj_iald F hu1 dX7_addDeed_35 (fun v2 => ?_)
  refine xj_istore_n (lv' := [(3, .int v2), (0, .ref (xad G q0)), (1, .ref (xad G q1)), (2, .int x2)]) F dX7_addDeed_36 (by decide) rfl ?_
  refine xj_sub (lv' := [(0, .ref (xad G q0)), (1, .ref (xad G q1)), (2, .int x2), (3, .int v2)]) [1, 2, 3, 0] rfl ?_
  exact jX7_addDeed_37 F hdep XF q0 q1 x2 v2 m0 hq0 hq1
set_option maxRecDepth 20000 in
set_option maxHeartbeats 4000000 in
theorem wX7_addDeed {G : XG} {l : Launch} {d : Nat} (hn : xN G) (hdep : 1 ≤ d) {m0 : XM} (hT : xT G m0) {a0 : Nat} {a1 : Nat} {a2 : Int32} (ha0 : isa G a0 7) (ha1 : isa G a1 5) : ∀ z, fX7_addDeed (xln G) a0 a1 a2 m0 = some z → xMet G l mX7_addDeed d [.ref (xad G a0), .ref (xad G a1), .int a2] m0 (xrV z) := by
  refine xMet_of (by decide +kernel) hn hT (Nat.le_of_ble_eq_true rfl) (fun X F => ?_)
  refine xj_sub (lv' := [(0, .ref (xad G a0)), (1, .ref (xad G a1)), (2, .int a2)]) [0, 1, 2] rfl ?_
  unfold fX7_addDeed
  refine xj_aload_n F 1 dX7_addDeed_0 rfl ?_
  refine xj_getR F ha1 lgX7_76 dX7_addDeed_1 (fun u1 hu1 => ?_)
  refine xj_iload_n F 2 dX7_addDeed_4 rfl ?_
  refine xj_iald F hu1 dX7_addDeed_5 (fun v2 => ?_)
  refine xj_iconst F (-1) dX7_addDeed_6 (by decide) ?_
  refine xj_icmp_eq (tgt := 30) F dX7_addDeed_7 (by decide) ?_ ?_
  · exact jX7_addDeed_30 F hdep a0 a1 a2 m0 ha0 ha1
  · refine xj_aload_n F 0 dX7_addDeed_10 rfl ?_
    refine xj_dup F dX7_addDeed_11 rfl ?_
    refine xj_get F ha0 lgX7_41 dX7_addDeed_12 (fun v3 => ?_)
    refine xj_iconst F 1 dX7_addDeed_15 (by decide) ?_
    refine xj_aload_n F 1 dX7_addDeed_16 rfl ?_
    refine xj_getR F ha1 lgX7_76 dX7_addDeed_17 (fun u4 hu4 => ?_)
    refine xj_iload_n F 2 dX7_addDeed_20 rfl ?_
    refine xj_iald F hu4 dX7_addDeed_21 (fun v5 => ?_)
    refine xj_bipush F 12 dX7_addDeed_22 (by decide) ?_
    refine xj_idiv F dX7_addDeed_24 (fun v6 => ?_)
    refine xj_ishl F dX7_addDeed_25 (fun v7 => ?_)
    refine xj_ior F dX7_addDeed_26 (fun v8 => ?_)
    refine xj_put F ha0 lpX7_41 dX7_addDeed_27 (fun m9 => ?_)
    exact jX7_addDeed_30 F hdep a0 a1 a2 m9 ha0 ha1
set_option maxRecDepth 20000 in
set_option maxHeartbeats 4000000 in
theorem jX7_touchedBy_103 {G : XG} {l : Launch} {d : Nat} {X : XX} (F : xF (xE G d) G X mX7_touchedBy) (hdep : 2 ≤ d) {r44 : Nat → Nat → Int32 → Int32 → XM → Option (Int32 × XM)} (hr44 : ∀ (q0 : Nat) (q1 : Nat) (x2 : Int32) (x3 : Int32) (m0 : XM), isa G q0 7 → isa G q1 6 → xJ (xE G d) (xQ xrI G X mX7_touchedBy) G l X mX7_touchedBy 44 [(0, .ref (xad G q0)), (1, .ref (xad G q1)), (2, .int x2), (3, .int x3)] [] m0 (r44 q0 q1 x2 x3 m0)) : ∀ (q0 : Nat) (q1 : Nat) (x2 : Int32) (x3 : Int32) (m0 : XM), isa G q0 7 → isa G q1 6 → xJ (xE G d) (xQ xrI G X mX7_touchedBy) G l X mX7_touchedBy 103 [(0, .ref (xad G q0)), (1, .ref (xad G q1)), (2, .int x2), (3, .int x3)] [] m0 (fX7_touchedBy_103 (xln G) r44 q0 q1 x2 x3 m0) := by
  intro q0 q1 x2 x3 m0 hq0 hq1
  unfold fX7_touchedBy_103
  refine xj_iinc F 3 1 (fun v1 => [(3, .int v1), (0, .ref (xad G q0)), (1, .ref (xad G q1)), (2, .int x2)]) dX7_touchedBy_103 rfl (by decide) (by decide) (fun _ => rfl) (fun v1 => ?_)
  refine xj_goto (tgt := 44) F dX7_touchedBy_106 (by decide) ?_
  refine xj_sub (lv' := [(0, .ref (xad G q0)), (1, .ref (xad G q1)), (2, .int x2), (3, .int v1)]) [1, 2, 3, 0] rfl ?_
  exact hr44 q0 q1 x2 v1 m0 hq0 hq1
set_option maxRecDepth 20000 in
set_option maxHeartbeats 4000000 in
theorem jX7_touchedBy_136 {G : XG} {l : Launch} {d : Nat} {X : XX} (F : xF (xE G d) G X mX7_touchedBy) (hdep : 2 ≤ d) {r111 : Nat → Nat → Int32 → XM → Option (Int32 × XM)} (hr111 : ∀ (q0 : Nat) (q1 : Nat) (x3 : Int32) (m0 : XM), isa G q0 7 → isa G q1 6 → xJ (xE G d) (xQ xrI G X mX7_touchedBy) G l X mX7_touchedBy 111 [(0, .ref (xad G q0)), (1, .ref (xad G q1)), (3, .int x3)] [] m0 (r111 q0 q1 x3 m0)) : ∀ (n : Nat) (q0 : Nat) (q1 : Nat) (x3 : Int32) (x4 : Int32) (x5 : Int32) (m0 : XM), isa G q0 7 → isa G q1 6 → xJ (xE G d) (xQ xrI G X mX7_touchedBy) G l X mX7_touchedBy 136 [(0, .ref (xad G q0)), (1, .ref (xad G q1)), (3, .int x3), (4, .int x4), (5, .int x5)] [] m0 (fX7_touchedBy_136 (xln G) r111 n q0 q1 x3 x4 x5 m0) := by
  intro n
  induction n with
  | zero => intro q0 q1 x3 x4 x5 m0 hq0 hq1; exact xj_none
  | succ n hr136 =>
    intro q0 q1 x3 x4 x5 m0 hq0 hq1
    unfold fX7_touchedBy_136
    generalize hrg136 : (fun q0 q1 x3 x4 x5 m0 => fX7_touchedBy_136 (xln G) r111 n q0 q1 x3 x4 x5 m0) = r136
    have hr136 : ∀ (q0 : Nat) (q1 : Nat) (x3 : Int32) (x4 : Int32) (x5 : Int32) (m0 : XM), isa G q0 7 → isa G q1 6 → xJ (xE G d) (xQ xrI G X mX7_touchedBy) G l X mX7_touchedBy 136 [(0, .ref (xad G q0)), (1, .ref (xad G q1)), (3, .int x3), (4, .int x4), (5, .int x5)] [] m0 (r136 q0 q1 x3 x4 x5 m0) := by
      subst hrg136
      exact hr136
    clear hrg136
    refine xj_eq (xv_eq _ _) ?_
    refine xj_iload F 4 dX7_touchedBy_136 rfl ?_
    refine xj_aload_n F 1 dX7_touchedBy_138 rfl ?_
    refine xj_getR F hq1 lgX7_62 dX7_touchedBy_139 (fun u1 hu1 => ?_)
    refine xj_iload F 3 dX7_touchedBy_142 rfl ?_
    refine xj_iald F hu1 dX7_touchedBy_144 (fun v2 => ?_)
    refine xj_aload_n F 1 dX7_touchedBy_145 rfl ?_
    refine xj_getR F hq1 lgX7_73 dX7_touchedBy_146 (fun u3 hu3 => ?_)
    refine xj_iload F 3 dX7_touchedBy_149 rfl ?_
    refine xj_iald F hu3 dX7_touchedBy_151 (fun v4 => ?_)
    refine xj_iadd F dX7_touchedBy_152 (fun v5 => ?_)
    refine xj_icmp_gt (tgt := 172) F dX7_touchedBy_153 (by decide) ?_ ?_
    · refine xj_iinc F 2 1 (fun v6 => [(3, .int v6), (0, .ref (xad G q0)), (1, .ref (xad G q1)), (4, .int x4), (5, .int x5)]) dX7_touchedBy_172 rfl (by decide) (by decide) (fun _ => rfl) (fun v6 => ?_)
      refine xj_goto (tgt := 111) F dX7_touchedBy_175 (by decide) ?_
      refine xj_sub (lv' := [(0, .ref (xad G q0)), (1, .ref (xad G q1)), (3, .int v6)]) [1, 2, 0] rfl ?_
      exact hr111 q0 q1 v6 m0 hq0 hq1
    · refine xj_aload_n F 0 dX7_touchedBy_156 rfl ?_
      refine xj_aload_n F 1 dX7_touchedBy_157 rfl ?_
      refine xj_getR F hq1 lgX7_65 dX7_touchedBy_158 (fun u7 hu7 => ?_)
      refine xj_iload F 4 dX7_touchedBy_161 rfl ?_
      refine xj_callVV (b := q0) (As := [.ref (xad G u7), .int x5]) (d' := 1) F hq0 lmX7_69 rfl rfl (Nat.le_of_ble_eq_true rfl) (xfit (Nat.le_trans (Nat.le_of_ble_eq_true rfl) hdep)) dX7_touchedBy_163 (fun hT z hz => wX7_addDeed (xnd F) (Nat.le_refl _) hT (a0 := q0) (a1 := u7) (a2 := x5) hq0 hu7 z hz) (fun m8 => ?_)
      refine xj_iinc F 4 1 (fun v9 => [(5, .int v9), (0, .ref (xad G q0)), (1, .ref (xad G q1)), (3, .int x3), (4, .int x4)]) dX7_touchedBy_166 rfl (by decide) (by decide) (fun _ => rfl) (fun v9 => ?_)
      refine xj_goto (tgt := 136) F dX7_touchedBy_169 (by decide) ?_
      refine xj_sub (lv' := [(0, .ref (xad G q0)), (1, .ref (xad G q1)), (3, .int x3), (4, .int x4), (5, .int v9)]) [1, 2, 3, 4, 0] rfl ?_
      exact hr136 q0 q1 x3 x4 v9 m8 hq0 hq1
set_option maxRecDepth 20000 in
set_option maxHeartbeats 4000000 in
theorem jX7_touchedBy_111 {G : XG} {l : Launch} {d : Nat} {X : XX} (F : xF (xE G d) G X mX7_touchedBy) (hdep : 2 ≤ d) : ∀ (n : Nat) (q0 : Nat) (q1 : Nat) (x3 : Int32) (m0 : XM), isa G q0 7 → isa G q1 6 → xJ (xE G d) (xQ xrI G X mX7_touchedBy) G l X mX7_touchedBy 111 [(0, .ref (xad G q0)), (1, .ref (xad G q1)), (3, .int x3)] [] m0 (fX7_touchedBy_111 (xln G) n q0 q1 x3 m0) := by
  intro n
  induction n with
  | zero => intro q0 q1 x3 m0 hq0 hq1; exact xj_none
  | succ n hr111 =>
    intro q0 q1 x3 m0 hq0 hq1
    unfold fX7_touchedBy_111
    generalize hrg111 : (fun q0 q1 x3 m0 => fX7_touchedBy_111 (xln G) n q0 q1 x3 m0) = r111
    have hr111 : ∀ (q0 : Nat) (q1 : Nat) (x3 : Int32) (m0 : XM), isa G q0 7 → isa G q1 6 → xJ (xE G d) (xQ xrI G X mX7_touchedBy) G l X mX7_touchedBy 111 [(0, .ref (xad G q0)), (1, .ref (xad G q1)), (3, .int x3)] [] m0 (r111 q0 q1 x3 m0) := by
      subst hrg111
      exact hr111
    clear hrg111
    refine xj_eq (xv_eq _ _) ?_
    refine xj_iload_n F 2 dX7_touchedBy_111 rfl ?_
    refine xj_aload_n F 0 dX7_touchedBy_112 rfl ?_
    refine xj_get F hq0 lgX7_44 dX7_touchedBy_113 (fun v1 => ?_)
    refine xj_icmp_ge (tgt := 178) F dX7_touchedBy_116 (by decide) ?_ ?_
    · refine xj_aload_n F 0 dX7_touchedBy_178 rfl ?_
      refine xj_get F hq0 lgX7_41 dX7_touchedBy_179 (fun v2 => ?_)
      exact xj_ret F rfl dX7_touchedBy_182
    · refine xj_aload_n F 0 dX7_touchedBy_119 rfl ?_
      refine xj_getR F hq0 lgX7_18 dX7_touchedBy_120 (fun u3 hu3 => ?_)
      refine xj_iload_n F 2 dX7_touchedBy_123 rfl ?_
      refine xj_iald F hu3 dX7_touchedBy_124 (fun v4 => ?_)
      refine xj_istore (lv' := [(4, .int v4), (0, .ref (xad G q0)), (1, .ref (xad G q1)), (3, .int x3)]) F dX7_touchedBy_125 (by decide) rfl ?_
      refine xj_aload_n F 2 dX7_touchedBy_127 rfl ?_
      refine xj_getR F hq1 lgX7_62 dX7_touchedBy_128 (fun u5 hu5 => ?_)
      refine xj_iload F 0 dX7_touchedBy_131 rfl ?_
      refine xj_iald F hu5 dX7_touchedBy_133 (fun v6 => ?_)
      refine xj_istore (lv' := [(5, .int v6), (4, .int v4), (0, .ref (xad G q0)), (1, .ref (xad G q1)), (3, .int x3)]) F dX7_touchedBy_134 (by decide) rfl ?_
      refine xj_sub (lv' := [(0, .ref (xad G q0)), (1, .ref (xad G q1)), (3, .int x3), (4, .int v4), (5, .int v6)]) [2, 3, 4, 1, 0] rfl ?_
      exact jX7_touchedBy_136 F hdep hr111 XF q0 q1 x3 v4 v6 m0 hq0 hq1
set_option maxRecDepth 20000 in
set_option maxHeartbeats 4000000 in
theorem jX7_touchedBy_44 {G : XG} {l : Launch} {d : Nat} {X : XX} (F : xF (xE G d) G X mX7_touchedBy) (hdep : 2 ≤ d) : ∀ (n : Nat) (q0 : Nat) (q1 : Nat) (x2 : Int32) (x3 : Int32) (m0 : XM), isa G q0 7 → isa G q1 6 → xJ (xE G d) (xQ xrI G X mX7_touchedBy) G l X mX7_touchedBy 44 [(0, .ref (xad G q0)), (1, .ref (xad G q1)), (2, .int x2), (3, .int x3)] [] m0 (fX7_touchedBy_44 (xln G) n q0 q1 x2 x3 m0) := by
  intro n
  induction n with
  | zero => intro q0 q1 x2 x3 m0 hq0 hq1; exact xj_none
  | succ n hr44 =>
    intro q0 q1 x2 x3 m0 hq0 hq1
    unfold fX7_touchedBy_44
    generalize hrg44 : (fun q0 q1 x2 x3 m0 => fX7_touchedBy_44 (xln G) n q0 q1 x2 x3 m0) = r44
    have hr44 : ∀ (q0 : Nat) (q1 : Nat) (x2 : Int32) (x3 : Int32) (m0 : XM), isa G q0 7 → isa G q1 6 → xJ (xE G d) (xQ xrI G X mX7_touchedBy) G l X mX7_touchedBy 44 [(0, .ref (xad G q0)), (1, .ref (xad G q1)), (2, .int x2), (3, .int x3)] [] m0 (r44 q0 q1 x2 x3 m0) := by
      subst hrg44
      exact hr44
    clear hrg44
    refine xj_eq (xv_eq _ _) ?_
    refine xj_iload_n F 3 dX7_touchedBy_44 rfl ?_
    refine xj_iload_n F 2 dX7_touchedBy_45 rfl ?_
    refine xj_bipush F 12 dX7_touchedBy_46 (by decide) ?_
    refine xj_imul F dX7_touchedBy_48 (fun v1 => ?_)
    refine xj_aload_n F 1 dX7_touchedBy_49 rfl ?_
    refine xj_getR F hq1 lgX7_53 dX7_touchedBy_50 (fun u2 hu2 => ?_)
    refine xj_iload_n F 2 dX7_touchedBy_53 rfl ?_
    refine xj_iald F hu2 dX7_touchedBy_54 (fun v3 => ?_)
    refine xj_iadd F dX7_touchedBy_55 (fun v4 => ?_)
    refine xj_icmp_ge (tgt := 109) F dX7_touchedBy_56 (by decide) ?_ ?_
    · refine xj_iconst F 0 dX7_touchedBy_109 (by decide) ?_
      refine xj_istore_n (lv' := [(3, .int 0), (0, .ref (xad G q0)), (1, .ref (xad G q1)), (2, .int x2)]) F dX7_touchedBy_110 (by decide) rfl ?_
      refine xj_sub (lv' := [(0, .ref (xad G q0)), (1, .ref (xad G q1)), (3, .int 0)]) [1, 2, 0] rfl ?_
      exact jX7_touchedBy_111 F hdep XF q0 q1 0 m0 hq0 hq1
    · refine xj_aload_n F 1 dX7_touchedBy_59 rfl ?_
      refine xj_getR F hq1 lgX7_56 dX7_touchedBy_60 (fun u5 hu5 => ?_)
      refine xj_iload_n F 3 dX7_touchedBy_63 rfl ?_
      refine xj_iald F hu5 dX7_touchedBy_64 (fun v6 => ?_)
      refine xj_iconst F 1 dX7_touchedBy_65 (by decide) ?_
      refine xj_icmp_ne (tgt := 103) F dX7_touchedBy_66 (by decide) ?_ ?_
      · exact jX7_touchedBy_103 F hdep hr44 q0 q1 x2 x3 m0 hq0 hq1
      · refine xj_aload_n F 1 dX7_touchedBy_69 rfl ?_
        refine xj_getR F hq1 lgX7_59 dX7_touchedBy_70 (fun u7 hu7 => ?_)
        refine xj_iload_n F 3 dX7_touchedBy_73 rfl ?_
        refine xj_iald F hu7 dX7_touchedBy_74 (fun v8 => ?_)
        refine xj_iconst F 4 dX7_touchedBy_75 (by decide) ?_
        refine xj_icmp_eq (tgt := 103) F dX7_touchedBy_76 (by decide) ?_ ?_
        · exact jX7_touchedBy_103 F hdep hr44 q0 q1 x2 x3 m0 hq0 hq1
        · refine xj_aload_n F 1 dX7_touchedBy_79 rfl ?_
          refine xj_getR F hq1 lgX7_62 dX7_touchedBy_80 (fun u9 hu9 => ?_)
          refine xj_iload_n F 3 dX7_touchedBy_83 rfl ?_
          refine xj_iald F hu9 dX7_touchedBy_84 (fun v10 => ?_)
          refine xj_iconst F (-1) dX7_touchedBy_85 (by decide) ?_
          refine xj_icmp_eq (tgt := 103) F dX7_touchedBy_86 (by decide) ?_ ?_
          · exact jX7_touchedBy_103 F hdep hr44 q0 q1 x2 x3 m0 hq0 hq1
          · refine xj_aload_n F 0 dX7_touchedBy_89 rfl ?_
            refine xj_aload_n F 1 dX7_touchedBy_90 rfl ?_
            refine xj_getR F hq1 lgX7_65 dX7_touchedBy_91 (fun u11 hu11 => ?_)
            refine xj_aload_n F 1 dX7_touchedBy_94 rfl ?_
            refine xj_getR F hq1 lgX7_62 dX7_touchedBy_95 (fun u12 hu12 => ?_)
            refine xj_iload_n F 3 dX7_touchedBy_98 rfl ?_
            refine xj_iald F hu12 dX7_touchedBy_99 (fun v13 => ?_)
            refine xj_callVV (b := q0) (As := [.ref (xad G u11), .int v13]) (d' := 1) F hq0 lmX7_69 rfl rfl (Nat.le_of_ble_eq_true rfl) (xfit (Nat.le_trans (Nat.le_of_ble_eq_true rfl) hdep)) dX7_touchedBy_100 (fun hT z hz => wX7_addDeed (xnd F) (Nat.le_refl _) hT (a0 := q0) (a1 := u11) (a2 := v13) hq0 hu11 z hz) (fun m14 => ?_)
            exact jX7_touchedBy_103 F hdep hr44 q0 q1 x2 x3 m14 hq0 hq1
set_option maxRecDepth 20000 in
set_option maxHeartbeats 4000000 in
theorem jX7_touchedBy_23 {G : XG} {l : Launch} {d : Nat} {X : XX} (F : xF (xE G d) G X mX7_touchedBy) (hdep : 2 ≤ d) : ∀ (q0 : Nat) (q1 : Nat) (x2 : Int32) (p0 : Nat) (s1 : Int32) (m0 : XM), isa G q0 7 → isa G q1 6 → isa G p0 7 → xJ (xE G d) (xQ xrI G X mX7_touchedBy) G l X mX7_touchedBy 23 [(0, .ref (xad G q0)), (1, .ref (xad G q1)), (2, .int x2)] [.int s1, .ref (xad G p0)] m0 (fX7_touchedBy_23 (xln G) q0 q1 x2 p0 s1 m0) := by
  intro q0 q1 x2 p0 s1 m0 hq0 hq1 hp0
  unfold fX7_touchedBy_23
  refine xj_put F hp0 lpX7_41 dX7_touchedBy_23 (fun m1 => ?_)
  refine xj_aload_n F 0 dX7_touchedBy_26 rfl ?_
  refine xj_iconst F 0 dX7_touchedBy_27 (by decide) ?_
  refine xj_put F hq0 lpX7_44 dX7_touchedBy_28 (fun m2 => ?_)
  refine xj_aload_n F 0 dX7_touchedBy_31 rfl ?_
  refine xj_getR F hq0 lgX7_21 dX7_touchedBy_32 (fun u3 hu3 => ?_)
  refine xj_iconst F 0 dX7_touchedBy_35 (by decide) ?_
  refine xj_callSV (As := [.ref (xad G u3), .int 0]) (d' := 0) F lmX7_47 rfl rfl (Nat.le_of_ble_eq_true rfl) (xfit (Nat.le_trans (Nat.le_of_ble_eq_true rfl) hdep)) dX7_touchedBy_36 (fun hT z hz => wJ7_fill_53178 (xnd F) (Nat.le_refl _) hT (a0 := u3) (a1 := 0) hu3 z hz) (fun m4 => ?_)
  refine xj_iload_n F 2 dX7_touchedBy_39 rfl ?_
  refine xj_bipush F 12 dX7_touchedBy_40 (by decide) ?_
  refine xj_imul F dX7_touchedBy_42 (fun v5 => ?_)
  refine xj_istore_n (lv' := [(3, .int v5), (0, .ref (xad G q0)), (1, .ref (xad G q1)), (2, .int x2)]) F dX7_touchedBy_43 (by decide) rfl ?_
  refine xj_sub (lv' := [(0, .ref (xad G q0)), (1, .ref (xad G q1)), (2, .int x2), (3, .int v5)]) [1, 2, 3, 0] rfl ?_
  exact jX7_touchedBy_44 F hdep XF q0 q1 x2 v5 m4 hq0 hq1
set_option maxRecDepth 20000 in
set_option maxHeartbeats 4000000 in
theorem wX7_touchedBy {G : XG} {l : Launch} {d : Nat} (hn : xN G) (hdep : 2 ≤ d) {m0 : XM} (hT : xT G m0) {a0 : Nat} {a1 : Nat} {a2 : Int32} (ha0 : isa G a0 7) (ha1 : isa G a1 6) : ∀ z, fX7_touchedBy (xln G) a0 a1 a2 m0 = some z → xMet G l mX7_touchedBy d [.ref (xad G a0), .ref (xad G a1), .int a2] m0 (xrI z) := by
  refine xMet_of (by decide +kernel) hn hT (Nat.le_of_ble_eq_true rfl) (fun X F => ?_)
  refine xj_sub (lv' := [(0, .ref (xad G a0)), (1, .ref (xad G a1)), (2, .int a2)]) [0, 1, 2] rfl ?_
  unfold fX7_touchedBy
  refine xj_aload_n F 0 dX7_touchedBy_0 rfl ?_
  refine xj_aload_n F 1 dX7_touchedBy_1 rfl ?_
  refine xj_getR F ha1 lgX7_38 dX7_touchedBy_2 (fun u1 hu1 => ?_)
  refine xj_iload_n F 2 dX7_touchedBy_5 rfl ?_
  refine xj_iald F hu1 dX7_touchedBy_6 (fun v2 => ?_)
  refine xj_iconst F (-1) dX7_touchedBy_7 (by decide) ?_
  refine xj_icmp_ne (tgt := 15) F dX7_touchedBy_8 (by decide) ?_ ?_
  · refine xj_iconst F 1 dX7_touchedBy_15 (by decide) ?_
    refine xj_aload_n F 1 dX7_touchedBy_16 rfl ?_
    refine xj_getR F ha1 lgX7_38 dX7_touchedBy_17 (fun u3 hu3 => ?_)
    refine xj_iload_n F 2 dX7_touchedBy_20 rfl ?_
    refine xj_iald F hu3 dX7_touchedBy_21 (fun v4 => ?_)
    refine xj_ishl F dX7_touchedBy_22 (fun v5 => ?_)
    exact jX7_touchedBy_23 F hdep a0 a1 a2 a0 v5 m0 ha0 ha1 ha0
  · refine xj_iconst F 0 dX7_touchedBy_11 (by decide) ?_
    refine xj_goto (tgt := 23) F dX7_touchedBy_12 (by decide) ?_
    exact jX7_touchedBy_23 F hdep a0 a1 a2 a0 0 m0 ha0 ha1 ha0
set_option maxRecDepth 20000 in
set_option maxHeartbeats 4000000 in
theorem jX7_spin_96 {G : XG} {l : Launch} {d : Nat} {X : XX} (F : xF (xE G d) G X mX7_spin) (hdep : 3 ≤ d) {r50 : Nat → Int32 → XM → Option XM} (hr50 : ∀ (q0 : Nat) (x2 : Int32) (m0 : XM), isa G q0 7 → xJ (xE G d) (xQ xrV G X mX7_spin) G l X mX7_spin 50 [(0, .ref (xad G q0)), (2, .int x2)] [] m0 (r50 q0 x2 m0)) {r60 : Nat → Int32 → Int32 → XM → Option XM} (hr60 : ∀ (q0 : Nat) (x2 : Int32) (x3 : Int32) (m0 : XM), isa G q0 7 → xJ (xE G d) (xQ xrV G X mX7_spin) G l X mX7_spin 60 [(0, .ref (xad G q0)), (2, .int x2), (3, .int x3)] [] m0 (r60 q0 x2 x3 m0)) : ∀ (q0 : Nat) (x2 : Int32) (x3 : Int32) (m0 : XM), isa G q0 7 → xJ (xE G d) (xQ xrV G X mX7_spin) G l X mX7_spin 96 [(0, .ref (xad G q0)), (2, .int x2), (3, .int x3)] [] m0 (fX7_spin_96 (xln G) r50 r60 q0 x2 x3 m0) := by
  intro q0 x2 x3 m0 hq0
  unfold fX7_spin_96
  refine xj_iinc F 2 1 (fun v1 => [(3, .int v1), (0, .ref (xad G q0)), (2, .int x2)]) dX7_spin_96 rfl (by decide) (by decide) (fun _ => rfl) (fun v1 => ?_)
  refine xj_goto (tgt := 60) F dX7_spin_99 (by decide) ?_
  refine xj_sub (lv' := [(0, .ref (xad G q0)), (2, .int x2), (3, .int v1)]) [1, 2, 0] rfl ?_
  exact hr60 q0 x2 v1 m0 hq0
set_option maxRecDepth 20000 in
set_option maxHeartbeats 4000000 in
theorem jX7_spin_60 {G : XG} {l : Launch} {d : Nat} {X : XX} (F : xF (xE G d) G X mX7_spin) (hdep : 3 ≤ d) {r50 : Nat → Int32 → XM → Option XM} (hr50 : ∀ (q0 : Nat) (x2 : Int32) (m0 : XM), isa G q0 7 → xJ (xE G d) (xQ xrV G X mX7_spin) G l X mX7_spin 50 [(0, .ref (xad G q0)), (2, .int x2)] [] m0 (r50 q0 x2 m0)) : ∀ (n : Nat) (q0 : Nat) (x2 : Int32) (x3 : Int32) (m0 : XM), isa G q0 7 → xJ (xE G d) (xQ xrV G X mX7_spin) G l X mX7_spin 60 [(0, .ref (xad G q0)), (2, .int x2), (3, .int x3)] [] m0 (fX7_spin_60 (xln G) r50 n q0 x2 x3 m0) := by
  intro n
  induction n with
  | zero => intro q0 x2 x3 m0 hq0; exact xj_none
  | succ n hr60 =>
    intro q0 x2 x3 m0 hq0
    unfold fX7_spin_60
    generalize hrg60 : (fun q0 x2 x3 m0 => fX7_spin_60 (xln G) r50 n q0 x2 x3 m0) = r60
    have hr60 : ∀ (q0 : Nat) (x2 : Int32) (x3 : Int32) (m0 : XM), isa G q0 7 → xJ (xE G d) (xQ xrV G X mX7_spin) G l X mX7_spin 60 [(0, .ref (xad G q0)), (2, .int x2), (3, .int x3)] [] m0 (r60 q0 x2 x3 m0) := by
      subst hrg60
      exact hr60
    clear hrg60
    refine xj_eq (xv_eq _ _) ?_
    refine xj_iload_n F 2 dX7_spin_60 rfl ?_
    refine xj_aload_n F 0 dX7_spin_61 rfl ?_
    refine xj_get F hq0 lgX7_33 dX7_spin_62 (fun v1 => ?_)
    refine xj_icmp_ge (tgt := 102) F dX7_spin_65 (by decide) ?_ ?_
    · refine xj_iinc F 1 1 (fun v2 => [(2, .int v2), (0, .ref (xad G q0)), (3, .int x3)]) dX7_spin_102 rfl (by decide) (by decide) (fun _ => rfl) (fun v2 => ?_)
      refine xj_goto (tgt := 50) F dX7_spin_105 (by decide) ?_
      refine xj_sub (lv' := [(0, .ref (xad G q0)), (2, .int v2)]) [1, 0] rfl ?_
      exact hr50 q0 v2 m0 hq0
    · refine xj_aload_n F 0 dX7_spin_68 rfl ?_
      refine xj_getR F hq0 lgX7_15 dX7_spin_69 (fun u3 hu3 => ?_)
      refine xj_iload_n F 2 dX7_spin_72 rfl ?_
      refine xj_iald F hu3 dX7_spin_73 (fun v4 => ?_)
      refine xj_iload_n F 1 dX7_spin_74 rfl ?_
      refine xj_ishr F dX7_spin_75 (fun v5 => ?_)
      refine xj_iconst F 1 dX7_spin_76 (by decide) ?_
      refine xj_iand F dX7_spin_77 (fun v6 => ?_)
      refine xj_if_eq (tgt := 96) F dX7_spin_78 (by decide) ?_ ?_
      · exact jX7_spin_96 F hdep hr50 hr60 q0 x2 x3 m0 hq0
      · refine xj_aload_n F 0 dX7_spin_81 rfl ?_
        refine xj_getR F hq0 lgX7_15 dX7_spin_82 (fun u7 hu7 => ?_)
        refine xj_iload_n F 2 dX7_spin_85 rfl ?_
        refine xj_dup2 F dX7_spin_86 rfl rfl ?_
        refine xj_iald F hu7 dX7_spin_87 (fun v8 => ?_)
        refine xj_aload_n F 0 dX7_spin_88 rfl ?_
        refine xj_getR F hq0 lgX7_15 dX7_spin_89 (fun u9 hu9 => ?_)
        refine xj_iload_n F 1 dX7_spin_92 rfl ?_
        refine xj_iald F hu9 dX7_spin_93 (fun v10 => ?_)
        refine xj_ior F dX7_spin_94 (fun v11 => ?_)
        refine xj_iast F hu7 dX7_spin_95 (fun m12 => ?_)
        exact jX7_spin_96 F hdep hr50 hr60 q0 x2 x3 m12 hq0
set_option maxRecDepth 20000 in
set_option maxHeartbeats 4000000 in
theorem jX7_spin_50 {G : XG} {l : Launch} {d : Nat} {X : XX} (F : xF (xE G d) G X mX7_spin) (hdep : 3 ≤ d) : ∀ (n : Nat) (q0 : Nat) (x2 : Int32) (m0 : XM), isa G q0 7 → xJ (xE G d) (xQ xrV G X mX7_spin) G l X mX7_spin 50 [(0, .ref (xad G q0)), (2, .int x2)] [] m0 (fX7_spin_50 (xln G) n q0 x2 m0) := by
  intro n
  induction n with
  | zero => intro q0 x2 m0 hq0; exact xj_none
  | succ n hr50 =>
    intro q0 x2 m0 hq0
    unfold fX7_spin_50
    generalize hrg50 : (fun q0 x2 m0 => fX7_spin_50 (xln G) n q0 x2 m0) = r50
    have hr50 : ∀ (q0 : Nat) (x2 : Int32) (m0 : XM), isa G q0 7 → xJ (xE G d) (xQ xrV G X mX7_spin) G l X mX7_spin 50 [(0, .ref (xad G q0)), (2, .int x2)] [] m0 (r50 q0 x2 m0) := by
      subst hrg50
      exact hr50
    clear hrg50
    refine xj_eq (xv_eq _ _) ?_
    refine xj_iload_n F 1 dX7_spin_50 rfl ?_
    refine xj_aload_n F 0 dX7_spin_51 rfl ?_
    refine xj_get F hq0 lgX7_33 dX7_spin_52 (fun v1 => ?_)
    refine xj_icmp_ge (tgt := 108) F dX7_spin_55 (by decide) ?_ ?_
    · exact xj_retV F rfl dX7_spin_108
    · refine xj_iconst F 0 dX7_spin_58 (by decide) ?_
      refine xj_istore_n (lv' := [(3, .int 0), (0, .ref (xad G q0)), (2, .int x2)]) F dX7_spin_59 (by decide) rfl ?_
      refine xj_sub (lv' := [(0, .ref (xad G q0)), (2, .int x2), (3, .int 0)]) [1, 2, 0] rfl ?_
      exact jX7_spin_60 F hdep hr50 XF q0 x2 0 m0 hq0
set_option maxRecDepth 20000 in
set_option maxHeartbeats 4000000 in
theorem jX7_spin_10 {G : XG} {l : Launch} {d : Nat} {X : XX} (F : xF (xE G d) G X mX7_spin) (hdep : 3 ≤ d) : ∀ (n : Nat) (q0 : Nat) (q1 : Nat) (x2 : Int32) (m0 : XM), isa G q0 7 → isa G q1 6 → xJ (xE G d) (xQ xrV G X mX7_spin) G l X mX7_spin 10 [(0, .ref (xad G q0)), (1, .ref (xad G q1)), (2, .int x2)] [] m0 (fX7_spin_10 (xln G) n q0 q1 x2 m0) := by
  intro n
  induction n with
  | zero => intro q0 q1 x2 m0 hq0 hq1; exact xj_none
  | succ n hr10 =>
    intro q0 q1 x2 m0 hq0 hq1
    unfold fX7_spin_10
    generalize hrg10 : (fun q0 q1 x2 m0 => fX7_spin_10 (xln G) n q0 q1 x2 m0) = r10
    have hr10 : ∀ (q0 : Nat) (q1 : Nat) (x2 : Int32) (m0 : XM), isa G q0 7 → isa G q1 6 → xJ (xE G d) (xQ xrV G X mX7_spin) G l X mX7_spin 10 [(0, .ref (xad G q0)), (1, .ref (xad G q1)), (2, .int x2)] [] m0 (r10 q0 q1 x2 m0) := by
      subst hrg10
      exact hr10
    clear hrg10
    refine xj_eq (xv_eq _ _) ?_
    refine xj_iload_n F 2 dX7_spin_10 rfl ?_
    refine xj_aload_n F 0 dX7_spin_11 rfl ?_
    refine xj_get F hq0 lgX7_33 dX7_spin_12 (fun v1 => ?_)
    refine xj_icmp_ge (tgt := 48) F dX7_spin_15 (by decide) ?_ ?_
    · refine xj_iconst F 0 dX7_spin_48 (by decide) ?_
      refine xj_istore_n (lv' := [(2, .int 0), (0, .ref (xad G q0)), (1, .ref (xad G q1))]) F dX7_spin_49 (by decide) rfl ?_
      refine xj_sub (lv' := [(0, .ref (xad G q0)), (2, .int 0)]) [1, 0] rfl ?_
      exact jX7_spin_50 F hdep XF q0 0 m0 hq0
    · refine xj_aload_n F 0 dX7_spin_18 rfl ?_
      refine xj_getR F hq0 lgX7_9 dX7_spin_19 (fun u2 hu2 => ?_)
      refine xj_iload_n F 2 dX7_spin_22 rfl ?_
      refine xj_aload_n F 0 dX7_spin_23 rfl ?_
      refine xj_aload_n F 1 dX7_spin_24 rfl ?_
      refine xj_iload_n F 2 dX7_spin_25 rfl ?_
      refine xj_callVI (b := q0) (As := [.ref (xad G q1), .int x2]) (d' := 2) F hq0 lmX7_34 rfl rfl (Nat.le_of_ble_eq_true rfl) (xfit (Nat.le_trans (Nat.le_of_ble_eq_true rfl) hdep)) dX7_spin_26 (fun hT z hz => wX7_touchedBy (xnd F) (Nat.le_refl _) hT (a0 := q0) (a1 := q1) (a2 := x2) hq0 hq1 z hz) (fun v4 m3 => ?_)
      refine xj_iast F hu2 dX7_spin_29 (fun m5 => ?_)
      refine xj_aload_n F 0 dX7_spin_30 rfl ?_
      refine xj_getR F hq0 lgX7_15 dX7_spin_31 (fun u6 hu6 => ?_)
      refine xj_iload_n F 2 dX7_spin_34 rfl ?_
      refine xj_aload_n F 0 dX7_spin_35 rfl ?_
      refine xj_getR F hq0 lgX7_9 dX7_spin_36 (fun u7 hu7 => ?_)
      refine xj_iload_n F 2 dX7_spin_39 rfl ?_
      refine xj_iald F hu7 dX7_spin_40 (fun v8 => ?_)
      refine xj_iast F hu6 dX7_spin_41 (fun m9 => ?_)
      refine xj_iinc F 2 1 (fun v10 => [(2, .int v10), (0, .ref (xad G q0)), (1, .ref (xad G q1))]) dX7_spin_42 rfl (by decide) (by decide) (fun _ => rfl) (fun v10 => ?_)
      refine xj_goto (tgt := 10) F dX7_spin_45 (by decide) ?_
      refine xj_sub (lv' := [(0, .ref (xad G q0)), (1, .ref (xad G q1)), (2, .int v10)]) [1, 2, 0] rfl ?_
      exact hr10 q0 q1 v10 m9 hq0 hq1
set_option maxRecDepth 20000 in
set_option maxHeartbeats 4000000 in
theorem wX7_spin {G : XG} {l : Launch} {d : Nat} (hn : xN G) (hdep : 3 ≤ d) {m0 : XM} (hT : xT G m0) {a0 : Nat} {a1 : Nat} (ha0 : isa G a0 7) (ha1 : isa G a1 6) : ∀ z, fX7_spin (xln G) a0 a1 m0 = some z → xMet G l mX7_spin d [.ref (xad G a0), .ref (xad G a1)] m0 (xrV z) := by
  refine xMet_of (by decide +kernel) hn hT (Nat.le_of_ble_eq_true rfl) (fun X F => ?_)
  refine xj_sub (lv' := [(0, .ref (xad G a0)), (1, .ref (xad G a1))]) [0, 1] rfl ?_
  unfold fX7_spin
  refine xj_aload_n F 0 dX7_spin_0 rfl ?_
  refine xj_aload_n F 1 dX7_spin_1 rfl ?_
  refine xj_get F ha1 lgX7_27 dX7_spin_2 (fun v1 => ?_)
  refine xj_put F ha0 lpX7_33 dX7_spin_5 (fun m2 => ?_)
  refine xj_iconst F 0 dX7_spin_8 (by decide) ?_
  refine xj_istore_n (lv' := [(2, .int 0), (0, .ref (xad G a0)), (1, .ref (xad G a1))]) F dX7_spin_9 (by decide) rfl ?_
  refine xj_sub (lv' := [(0, .ref (xad G a0)), (1, .ref (xad G a1)), (2, .int 0)]) [1, 2, 0] rfl ?_
  exact jX7_spin_10 F hdep XF a0 a1 0 m2 ha0 ha1
set_option maxRecDepth 20000 in
set_option maxHeartbeats 4000000 in
theorem jX7_ringOf_44 {G : XG} {l : Launch} {d : Nat} {X : XX} (F : xF (xE G d) G X mX7_ringOf) (hdep : 0 ≤ d) {r4 : Nat → Int32 → Int32 → Int32 → XM → Option (Int32 × XM)} (hr4 : ∀ (q0 : Nat) (x1 : Int32) (x2 : Int32) (x3 : Int32) (m0 : XM), isa G q0 7 → xJ (xE G d) (xQ xrI G X mX7_ringOf) G l X mX7_ringOf 4 [(0, .ref (xad G q0)), (1, .int x1), (2, .int x2), (3, .int x3)] [] m0 (r4 q0 x1 x2 x3 m0)) : ∀ (q0 : Nat) (x1 : Int32) (x2 : Int32) (x3 : Int32) (m0 : XM), isa G q0 7 → xJ (xE G d) (xQ xrI G X mX7_ringOf) G l X mX7_ringOf 44 [(0, .ref (xad G q0)), (1, .int x1), (2, .int x2), (3, .int x3)] [] m0 (fX7_ringOf_44 (xln G) r4 q0 x1 x2 x3 m0) := by
  intro q0 x1 x2 x3 m0 hq0
  unfold fX7_ringOf_44
  refine xj_iinc F 3 1 (fun v1 => [(3, .int v1), (0, .ref (xad G q0)), (1, .int x1), (2, .int x2)]) dX7_ringOf_44 rfl (by decide) (by decide) (fun _ => rfl) (fun v1 => ?_)
  refine xj_goto (tgt := 4) F dX7_ringOf_47 (by decide) ?_
  refine xj_sub (lv' := [(0, .ref (xad G q0)), (1, .int x1), (2, .int x2), (3, .int v1)]) [1, 2, 3, 0] rfl ?_
  exact hr4 q0 x1 x2 v1 m0 hq0
set_option maxRecDepth 20000 in
set_option maxHeartbeats 4000000 in
theorem jX7_ringOf_4 {G : XG} {l : Launch} {d : Nat} {X : XX} (F : xF (xE G d) G X mX7_ringOf) (hdep : 0 ≤ d) : ∀ (n : Nat) (q0 : Nat) (x1 : Int32) (x2 : Int32) (x3 : Int32) (m0 : XM), isa G q0 7 → xJ (xE G d) (xQ xrI G X mX7_ringOf) G l X mX7_ringOf 4 [(0, .ref (xad G q0)), (1, .int x1), (2, .int x2), (3, .int x3)] [] m0 (fX7_ringOf_4 (xln G) n q0 x1 x2 x3 m0) := by
  intro n
  induction n with
  | zero => intro q0 x1 x2 x3 m0 hq0; exact xj_none
  | succ n hr4 =>
    intro q0 x1 x2 x3 m0 hq0
    unfold fX7_ringOf_4
    generalize hrg4 : (fun q0 x1 x2 x3 m0 => fX7_ringOf_4 (xln G) n q0 x1 x2 x3 m0) = r4
    have hr4 : ∀ (q0 : Nat) (x1 : Int32) (x2 : Int32) (x3 : Int32) (m0 : XM), isa G q0 7 → xJ (xE G d) (xQ xrI G X mX7_ringOf) G l X mX7_ringOf 4 [(0, .ref (xad G q0)), (1, .int x1), (2, .int x2), (3, .int x3)] [] m0 (r4 q0 x1 x2 x3 m0) := by
      subst hrg4
      exact hr4
    clear hrg4
    refine xj_eq (xv_eq _ _) ?_
    refine xj_iload_n F 3 dX7_ringOf_4 rfl ?_
    refine xj_aload_n F 0 dX7_ringOf_5 rfl ?_
    refine xj_get F hq0 lgX7_33 dX7_ringOf_6 (fun v1 => ?_)
    refine xj_icmp_ge (tgt := 50) F dX7_ringOf_9 (by decide) ?_ ?_
    · refine xj_iload_n F 2 dX7_ringOf_50 rfl ?_
      exact xj_ret F rfl dX7_ringOf_51
    · refine xj_aload_n F 0 dX7_ringOf_12 rfl ?_
      refine xj_getR F hq0 lgX7_15 dX7_ringOf_13 (fun u2 hu2 => ?_)
      refine xj_iload_n F 1 dX7_ringOf_16 rfl ?_
      refine xj_iald F hu2 dX7_ringOf_17 (fun v3 => ?_)
      refine xj_iload_n F 3 dX7_ringOf_18 rfl ?_
      refine xj_ishr F dX7_ringOf_19 (fun v4 => ?_)
      refine xj_iconst F 1 dX7_ringOf_20 (by decide) ?_
      refine xj_iand F dX7_ringOf_21 (fun v5 => ?_)
      refine xj_if_eq (tgt := 44) F dX7_ringOf_22 (by decide) ?_ ?_
      · exact jX7_ringOf_44 F hdep hr4 q0 x1 x2 x3 m0 hq0
      · refine xj_aload_n F 0 dX7_ringOf_25 rfl ?_
        refine xj_getR F hq0 lgX7_15 dX7_ringOf_26 (fun u6 hu6 => ?_)
        refine xj_iload_n F 3 dX7_ringOf_29 rfl ?_
        refine xj_iald F hu6 dX7_ringOf_30 (fun v7 => ?_)
        refine xj_iload_n F 1 dX7_ringOf_31 rfl ?_
        refine xj_ishr F dX7_ringOf_32 (fun v8 => ?_)
        refine xj_iconst F 1 dX7_ringOf_33 (by decide) ?_
        refine xj_iand F dX7_ringOf_34 (fun v9 => ?_)
        refine xj_if_eq (tgt := 44) F dX7_ringOf_35 (by decide) ?_ ?_
        · exact jX7_ringOf_44 F hdep hr4 q0 x1 x2 x3 m0 hq0
        · refine xj_iload_n F 2 dX7_ringOf_38 rfl ?_
          refine xj_iconst F 1 dX7_ringOf_39 (by decide) ?_
          refine xj_iload_n F 3 dX7_ringOf_40 rfl ?_
          refine xj_ishl F dX7_ringOf_41 (fun v10 => ?_)
          refine xj_ior F dX7_ringOf_42 (fun v11 => ?_)
          refine xj_istore_n (lv' := [(2, .int v11), (0, .ref (xad G q0)), (1, .int x1), (3, .int x3)]) F dX7_ringOf_43 (by decide) rfl ?_
          refine xj_sub (lv' := [(0, .ref (xad G q0)), (1, .int x1), (2, .int v11), (3, .int x3)]) [1, 2, 0, 3] rfl ?_
          exact jX7_ringOf_44 F hdep hr4 q0 x1 v11 x3 m0 hq0
set_option maxRecDepth 20000 in
set_option maxHeartbeats 4000000 in
theorem wX7_ringOf {G : XG} {l : Launch} {d : Nat} (hn : xN G) (hdep : 0 ≤ d) {m0 : XM} (hT : xT G m0) {a0 : Nat} {a1 : Int32} (ha0 : isa G a0 7) : ∀ z, fX7_ringOf (xln G) a0 a1 m0 = some z → xMet G l mX7_ringOf d [.ref (xad G a0), .int a1] m0 (xrI z) := by
  refine xMet_of (by decide +kernel) hn hT (Nat.le_of_ble_eq_true rfl) (fun X F => ?_)
  refine xj_sub (lv' := [(0, .ref (xad G a0)), (1, .int a1)]) [0, 1] rfl ?_
  unfold fX7_ringOf
  refine xj_iconst F 0 dX7_ringOf_0 (by decide) ?_
  refine xj_istore_n (lv' := [(2, .int 0), (0, .ref (xad G a0)), (1, .int a1)]) F dX7_ringOf_1 (by decide) rfl ?_
  refine xj_iconst F 0 dX7_ringOf_2 (by decide) ?_
  refine xj_istore_n (lv' := [(3, .int 0), (2, .int 0), (0, .ref (xad G a0)), (1, .int a1)]) F dX7_ringOf_3 (by decide) rfl ?_
  refine xj_sub (lv' := [(0, .ref (xad G a0)), (1, .int a1), (2, .int 0), (3, .int 0)]) [2, 3, 1, 0] rfl ?_
  exact jX7_ringOf_4 F hdep XF a0 a1 0 0 m0 ha0
set_option maxRecDepth 20000 in
set_option maxHeartbeats 4000000 in
theorem wX7_brokenAhead {G : XG} {l : Launch} {d : Nat} (hn : xN G) (hdep : 1 ≤ d) {m0 : XM} (hT : xT G m0) {a0 : Nat} {a1 : Int32} {a2 : Int32} (ha0 : isa G a0 7) : ∀ z, fX7_brokenAhead (xln G) a0 a1 a2 m0 = some z → xMet G l mX7_brokenAhead d [.ref (xad G a0), .int a1, .int a2] m0 (xrI z) := by
  refine xMet_of (by decide +kernel) hn hT (Nat.le_of_ble_eq_true rfl) (fun X F => ?_)
  refine xj_sub (lv' := [(0, .ref (xad G a0)), (1, .int a1), (2, .int a2)]) [0, 1, 2] rfl ?_
  unfold fX7_brokenAhead
  refine xj_aload_n F 0 dX7_brokenAhead_0 rfl ?_
  refine xj_getR F ha0 lgX7_9 dX7_brokenAhead_1 (fun u1 hu1 => ?_)
  refine xj_iload_n F 1 dX7_brokenAhead_4 rfl ?_
  refine xj_iald F hu1 dX7_brokenAhead_5 (fun v2 => ?_)
  refine xj_iload_n F 2 dX7_brokenAhead_6 rfl ?_
  refine xj_iand F dX7_brokenAhead_7 (fun v3 => ?_)
  refine xj_iconst F 1 dX7_brokenAhead_8 (by decide) ?_
  refine xj_iload_n F 1 dX7_brokenAhead_9 rfl ?_
  refine xj_ishl F dX7_brokenAhead_10 (fun v4 => ?_)
  refine xj_iconst F (-1) dX7_brokenAhead_11 (by decide) ?_
  refine xj_ixor F dX7_brokenAhead_12 (fun v5 => ?_)
  refine xj_iand F dX7_brokenAhead_13 (fun v6 => ?_)
  refine xj_callSI (As := [.int v6]) (d' := 0) F lmX7_101 rfl rfl (Nat.le_of_ble_eq_true rfl) (xfit (Nat.le_trans (Nat.le_of_ble_eq_true rfl) hdep)) dX7_brokenAhead_14 (fun hT z hz => wJ6_bitCount_0f7a4 (xnd F) (Nat.le_refl _) hT (a0 := v6)  z hz) (fun v8 m7 => ?_)
  exact xj_ret F rfl dX7_brokenAhead_17
set_option maxRecDepth 20000 in
set_option maxHeartbeats 4000000 in
theorem jX7_countBroken_14 {G : XG} {l : Launch} {d : Nat} {X : XX} (F : xF (xE G d) G X mX7_countBroken) (hdep : 2 ≤ d) : ∀ (n : Nat) (q0 : Nat) (q1 : Nat) (x2 : Int32) (x3 : Int32) (x4 : Int32) (m0 : XM), isa G q0 7 → isa G q1 10 → xJ (xE G d) (xQ xrI G X mX7_countBroken) G l X mX7_countBroken 14 [(0, .ref (xad G q0)), (1, .ref (xad G q1)), (2, .int x2), (3, .int x3), (4, .int x4)] [] m0 (fX7_countBroken_14 (xln G) n q0 q1 x2 x3 x4 m0) := by
  intro n
  induction n with
  | zero => intro q0 q1 x2 x3 x4 m0 hq0 hq1; exact xj_none
  | succ n hr14 =>
    intro q0 q1 x2 x3 x4 m0 hq0 hq1
    unfold fX7_countBroken_14
    generalize hrg14 : (fun q0 q1 x2 x3 x4 m0 => fX7_countBroken_14 (xln G) n q0 q1 x2 x3 x4 m0) = r14
    have hr14 : ∀ (q0 : Nat) (q1 : Nat) (x2 : Int32) (x3 : Int32) (x4 : Int32) (m0 : XM), isa G q0 7 → isa G q1 10 → xJ (xE G d) (xQ xrI G X mX7_countBroken) G l X mX7_countBroken 14 [(0, .ref (xad G q0)), (1, .ref (xad G q1)), (2, .int x2), (3, .int x3), (4, .int x4)] [] m0 (r14 q0 q1 x2 x3 x4 m0) := by
      subst hrg14
      exact hr14
    clear hrg14
    refine xj_eq (xv_eq _ _) ?_
    refine xj_iload F 4 dX7_countBroken_14 rfl ?_
    refine xj_aload_n F 0 dX7_countBroken_16 rfl ?_
    refine xj_get F hq0 lgX7_33 dX7_countBroken_17 (fun v1 => ?_)
    refine xj_icmp_ge (tgt := 59) F dX7_countBroken_20 (by decide) ?_ ?_
    · refine xj_iload_n F 3 dX7_countBroken_59 rfl ?_
      exact xj_ret F rfl dX7_countBroken_60
    · refine xj_iload F 4 dX7_countBroken_23 rfl ?_
      refine xj_aload_n F 1 dX7_countBroken_25 rfl ?_
      refine xj_alen F hq1 (by decide) dX7_countBroken_26 (fun v2 => ?_)
      refine xj_icmp_ge (tgt := 59) F dX7_countBroken_27 (by decide) ?_ ?_
      · refine xj_iload_n F 3 dX7_countBroken_59 rfl ?_
        exact xj_ret F rfl dX7_countBroken_60
      · refine xj_iload_n F 3 dX7_countBroken_30 rfl ?_
        refine xj_aload_n F 0 dX7_countBroken_31 rfl ?_
        refine xj_aload_n F 1 dX7_countBroken_32 rfl ?_
        refine xj_iload F 4 dX7_countBroken_33 rfl ?_
        refine xj_iald F hq1 dX7_countBroken_35 (fun v3 => ?_)
        refine xj_iload_n F 2 dX7_countBroken_36 rfl ?_
        refine xj_callVI (b := q0) (As := [.int v3, .int x2]) (d' := 1) F hq0 lmX7_97 rfl rfl (Nat.le_of_ble_eq_true rfl) (xfit (Nat.le_trans (Nat.le_of_ble_eq_true rfl) hdep)) dX7_countBroken_37 (fun hT z hz => wX7_brokenAhead (xnd F) (Nat.le_refl _) hT (a0 := q0) (a1 := v3) (a2 := x2) hq0 z hz) (fun v5 m4 => ?_)
        refine xj_iadd F dX7_countBroken_40 (fun v6 => ?_)
        refine xj_istore_n (lv' := [(3, .int v6), (0, .ref (xad G q0)), (1, .ref (xad G q1)), (2, .int x2), (4, .int x4)]) F dX7_countBroken_41 (by decide) rfl ?_
        refine xj_iload_n F 3 dX7_countBroken_42 rfl ?_
        refine xj_iconst F 1 dX7_countBroken_43 (by decide) ?_
        refine xj_aload_n F 2 dX7_countBroken_44 rfl ?_
        refine xj_iload F 4 dX7_countBroken_45 rfl ?_
        refine xj_iald F hq1 dX7_countBroken_47 (fun v7 => ?_)
        refine xj_ishl F dX7_countBroken_48 (fun v8 => ?_)
        refine xj_iconst F (-1) dX7_countBroken_49 (by decide) ?_
        refine xj_ixor F dX7_countBroken_50 (fun v9 => ?_)
        refine xj_iand F dX7_countBroken_51 (fun v10 => ?_)
        refine xj_istore_n (lv' := [(2, .int v10), (3, .int v6), (0, .ref (xad G q0)), (1, .ref (xad G q1)), (4, .int x4)]) F dX7_countBroken_52 (by decide) rfl ?_
        refine xj_iinc F 4 1 (fun v11 => [(4, .int v11), (2, .int v10), (3, .int v6), (0, .ref (xad G q0)), (1, .ref (xad G q1))]) dX7_countBroken_53 rfl (by decide) (by decide) (fun _ => rfl) (fun v11 => ?_)
        refine xj_goto (tgt := 14) F dX7_countBroken_56 (by decide) ?_
        refine xj_sub (lv' := [(0, .ref (xad G q0)), (1, .ref (xad G q1)), (2, .int v10), (3, .int v6), (4, .int v11)]) [3, 4, 1, 2, 0] rfl ?_
        exact hr14 q0 q1 v10 v6 v11 m4 hq0 hq1
set_option maxRecDepth 20000 in
set_option maxHeartbeats 4000000 in
theorem wX7_countBroken {G : XG} {l : Launch} {d : Nat} (hn : xN G) (hdep : 2 ≤ d) {m0 : XM} (hT : xT G m0) {a0 : Nat} {a1 : Nat} (ha0 : isa G a0 7) (ha1 : isa G a1 10) : ∀ z, fX7_countBroken (xln G) a0 a1 m0 = some z → xMet G l mX7_countBroken d [.ref (xad G a0), .ref (xad G a1)] m0 (xrI z) := by
  refine xMet_of (by decide +kernel) hn hT (Nat.le_of_ble_eq_true rfl) (fun X F => ?_)
  refine xj_sub (lv' := [(0, .ref (xad G a0)), (1, .ref (xad G a1))]) [0, 1] rfl ?_
  unfold fX7_countBroken
  refine xj_iconst F 1 dX7_countBroken_0 (by decide) ?_
  refine xj_aload_n F 0 dX7_countBroken_1 rfl ?_
  refine xj_get F ha0 lgX7_33 dX7_countBroken_2 (fun v1 => ?_)
  refine xj_ishl F dX7_countBroken_5 (fun v2 => ?_)
  refine xj_iconst F 1 dX7_countBroken_6 (by decide) ?_
  refine xj_isub F dX7_countBroken_7 (fun v3 => ?_)
  refine xj_istore_n (lv' := [(2, .int v3), (0, .ref (xad G a0)), (1, .ref (xad G a1))]) F dX7_countBroken_8 (by decide) rfl ?_
  refine xj_iconst F 0 dX7_countBroken_9 (by decide) ?_
  refine xj_istore_n (lv' := [(3, .int 0), (2, .int v3), (0, .ref (xad G a0)), (1, .ref (xad G a1))]) F dX7_countBroken_10 (by decide) rfl ?_
  refine xj_iconst F 0 dX7_countBroken_11 (by decide) ?_
  refine xj_istore (lv' := [(4, .int 0), (3, .int 0), (2, .int v3), (0, .ref (xad G a0)), (1, .ref (xad G a1))]) F dX7_countBroken_12 (by decide) rfl ?_
  refine xj_sub (lv' := [(0, .ref (xad G a0)), (1, .ref (xad G a1)), (2, .int v3), (3, .int 0), (4, .int 0)]) [3, 4, 2, 1, 0] rfl ?_
  exact jX7_countBroken_14 F hdep XF a0 a1 v3 0 0 m0 ha0 ha1
set_option maxRecDepth 20000 in
set_option maxHeartbeats 4000000 in
theorem wX7_fewestWith {G : XG} {l : Launch} {d : Nat} (hn : xN G) (hdep : 2 ≤ d) {m0 : XM} (hT : xT G m0) {a0 : Nat} {a1 : Int32} {a2 : Int32} (ha0 : isa G a0 7) : ∀ z, fX7_fewestWith (xln G) a0 a1 a2 m0 = some z → xMet G l mX7_fewestWith d [.ref (xad G a0), .int a1, .int a2] m0 (xrI z) := by
  refine xMet_of (by decide +kernel) hn hT (Nat.le_of_ble_eq_true rfl) (fun X F => ?_)
  refine xj_sub (lv' := [(0, .ref (xad G a0)), (1, .int a1), (2, .int a2)]) [0, 1, 2] rfl ?_
  unfold fX7_fewestWith
  refine xj_aload_n F 0 dX7_fewestWith_0 rfl ?_
  refine xj_iload_n F 1 dX7_fewestWith_1 rfl ?_
  refine xj_iload_n F 2 dX7_fewestWith_2 rfl ?_
  refine xj_callVI (b := a0) (As := [.int a1, .int a2]) (d' := 1) F ha0 lmX7_97 rfl rfl (Nat.le_of_ble_eq_true rfl) (xfit (Nat.le_trans (Nat.le_of_ble_eq_true rfl) hdep)) dX7_fewestWith_3 (fun hT z hz => wX7_brokenAhead (xnd F) (Nat.le_refl _) hT (a0 := a0) (a1 := a1) (a2 := a2) ha0 z hz) (fun v2 m1 => ?_)
  refine xj_aload_n F 0 dX7_fewestWith_6 rfl ?_
  refine xj_getR F ha0 lgX7_24 dX7_fewestWith_7 (fun u3 hu3 => ?_)
  refine xj_iload_n F 2 dX7_fewestWith_10 rfl ?_
  refine xj_iconst F 1 dX7_fewestWith_11 (by decide) ?_
  refine xj_iload_n F 1 dX7_fewestWith_12 rfl ?_
  refine xj_ishl F dX7_fewestWith_13 (fun v4 => ?_)
  refine xj_iconst F (-1) dX7_fewestWith_14 (by decide) ?_
  refine xj_ixor F dX7_fewestWith_15 (fun v5 => ?_)
  refine xj_iand F dX7_fewestWith_16 (fun v6 => ?_)
  refine xj_iald F hu3 dX7_fewestWith_17 (fun v7 => ?_)
  refine xj_iadd F dX7_fewestWith_18 (fun v8 => ?_)
  exact xj_ret F rfl dX7_fewestWith_19
set_option maxRecDepth 20000 in
set_option maxHeartbeats 4000000 in
theorem jX7_weighAll_66 {G : XG} {l : Launch} {d : Nat} {X : XX} (F : xF (xE G d) G X mX7_weighAll) (hdep : 3 ≤ d) {r9 : Nat → Int32 → XM → Option XM} (hr9 : ∀ (q0 : Nat) (x1 : Int32) (m0 : XM), isa G q0 7 → xJ (xE G d) (xQ xrV G X mX7_weighAll) G l X mX7_weighAll 9 [(0, .ref (xad G q0)), (1, .int x1)] [] m0 (r9 q0 x1 m0)) {r29 : Nat → Int32 → Int32 → XM → Option XM} (hr29 : ∀ (q0 : Nat) (x1 : Int32) (x2 : Int32) (m0 : XM), isa G q0 7 → xJ (xE G d) (xQ xrV G X mX7_weighAll) G l X mX7_weighAll 29 [(0, .ref (xad G q0)), (1, .int x1), (2, .int x2)] [] m0 (r29 q0 x1 x2 m0)) : ∀ (q0 : Nat) (x1 : Int32) (x2 : Int32) (m0 : XM), isa G q0 7 → xJ (xE G d) (xQ xrV G X mX7_weighAll) G l X mX7_weighAll 66 [(0, .ref (xad G q0)), (1, .int x1), (2, .int x2)] [] m0 (fX7_weighAll_66 (xln G) r9 r29 q0 x1 x2 m0) := by
  intro q0 x1 x2 m0 hq0
  unfold fX7_weighAll_66
  refine xj_iinc F 2 1 (fun v1 => [(2, .int v1), (0, .ref (xad G q0)), (1, .int x1)]) dX7_weighAll_66 rfl (by decide) (by decide) (fun _ => rfl) (fun v1 => ?_)
  refine xj_goto (tgt := 29) F dX7_weighAll_69 (by decide) ?_
  refine xj_sub (lv' := [(0, .ref (xad G q0)), (1, .int x1), (2, .int v1)]) [1, 2, 0] rfl ?_
  exact hr29 q0 x1 v1 m0 hq0
set_option maxRecDepth 20000 in
set_option maxHeartbeats 4000000 in
theorem jX7_weighAll_29 {G : XG} {l : Launch} {d : Nat} {X : XX} (F : xF (xE G d) G X mX7_weighAll) (hdep : 3 ≤ d) {r9 : Nat → Int32 → XM → Option XM} (hr9 : ∀ (q0 : Nat) (x1 : Int32) (m0 : XM), isa G q0 7 → xJ (xE G d) (xQ xrV G X mX7_weighAll) G l X mX7_weighAll 9 [(0, .ref (xad G q0)), (1, .int x1)] [] m0 (r9 q0 x1 m0)) : ∀ (n : Nat) (q0 : Nat) (x1 : Int32) (x2 : Int32) (m0 : XM), isa G q0 7 → xJ (xE G d) (xQ xrV G X mX7_weighAll) G l X mX7_weighAll 29 [(0, .ref (xad G q0)), (1, .int x1), (2, .int x2)] [] m0 (fX7_weighAll_29 (xln G) r9 n q0 x1 x2 m0) := by
  intro n
  induction n with
  | zero => intro q0 x1 x2 m0 hq0; exact xj_none
  | succ n hr29 =>
    intro q0 x1 x2 m0 hq0
    unfold fX7_weighAll_29
    generalize hrg29 : (fun q0 x1 x2 m0 => fX7_weighAll_29 (xln G) r9 n q0 x1 x2 m0) = r29
    have hr29 : ∀ (q0 : Nat) (x1 : Int32) (x2 : Int32) (m0 : XM), isa G q0 7 → xJ (xE G d) (xQ xrV G X mX7_weighAll) G l X mX7_weighAll 29 [(0, .ref (xad G q0)), (1, .int x1), (2, .int x2)] [] m0 (r29 q0 x1 x2 m0) := by
      subst hrg29
      exact hr29
    clear hrg29
    refine xj_eq (xv_eq _ _) ?_
    refine xj_iload_n F 2 dX7_weighAll_29 rfl ?_
    refine xj_aload_n F 0 dX7_weighAll_30 rfl ?_
    refine xj_get F hq0 lgX7_33 dX7_weighAll_31 (fun v1 => ?_)
    refine xj_icmp_ge (tgt := 72) F dX7_weighAll_34 (by decide) ?_ ?_
    · refine xj_iinc F 1 1 (fun v2 => [(1, .int v2), (0, .ref (xad G q0)), (2, .int x2)]) dX7_weighAll_72 rfl (by decide) (by decide) (fun _ => rfl) (fun v2 => ?_)
      refine xj_goto (tgt := 9) F dX7_weighAll_75 (by decide) ?_
      refine xj_sub (lv' := [(0, .ref (xad G q0)), (1, .int v2)]) [1, 0] rfl ?_
      exact hr9 q0 v2 m0 hq0
    · refine xj_iload_n F 1 dX7_weighAll_37 rfl ?_
      refine xj_iload_n F 2 dX7_weighAll_38 rfl ?_
      refine xj_ishr F dX7_weighAll_39 (fun v3 => ?_)
      refine xj_iconst F 1 dX7_weighAll_40 (by decide) ?_
      refine xj_iand F dX7_weighAll_41 (fun v4 => ?_)
      refine xj_if_eq (tgt := 66) F dX7_weighAll_42 (by decide) ?_ ?_
      · exact jX7_weighAll_66 F hdep hr9 hr29 q0 x1 x2 m0 hq0
      · refine xj_aload_n F 0 dX7_weighAll_45 rfl ?_
        refine xj_getR F hq0 lgX7_24 dX7_weighAll_46 (fun u5 hu5 => ?_)
        refine xj_iload_n F 1 dX7_weighAll_49 rfl ?_
        refine xj_aload_n F 0 dX7_weighAll_50 rfl ?_
        refine xj_getR F hq0 lgX7_24 dX7_weighAll_51 (fun u6 hu6 => ?_)
        refine xj_iload_n F 1 dX7_weighAll_54 rfl ?_
        refine xj_iald F hu6 dX7_weighAll_55 (fun v7 => ?_)
        refine xj_aload_n F 0 dX7_weighAll_56 rfl ?_
        refine xj_iload_n F 2 dX7_weighAll_57 rfl ?_
        refine xj_iload_n F 1 dX7_weighAll_58 rfl ?_
        refine xj_callVI (b := q0) (As := [.int x2, .int x1]) (d' := 2) F hq0 lmX7_110 rfl rfl (Nat.le_of_ble_eq_true rfl) (xfit (Nat.le_trans (Nat.le_of_ble_eq_true rfl) hdep)) dX7_weighAll_59 (fun hT z hz => wX7_fewestWith (xnd F) (Nat.le_refl _) hT (a0 := q0) (a1 := x2) (a2 := x1) hq0 z hz) (fun v9 m8 => ?_)
        refine xj_callSI (As := [.int v7, .int v9]) (d' := 0) F lmX7_113 rfl rfl (Nat.le_of_ble_eq_true rfl) (xfit (Nat.le_trans (Nat.le_of_ble_eq_true rfl) hdep)) dX7_weighAll_62 (fun hT z hz => wJ9_min_7cf53 (xnd F) (Nat.le_refl _) hT (a0 := v7) (a1 := v9)  z hz) (fun v11 m10 => ?_)
        refine xj_iast F hu5 dX7_weighAll_65 (fun m12 => ?_)
        exact jX7_weighAll_66 F hdep hr9 hr29 q0 x1 x2 m12 hq0
set_option maxRecDepth 20000 in
set_option maxHeartbeats 4000000 in
theorem jX7_weighAll_9 {G : XG} {l : Launch} {d : Nat} {X : XX} (F : xF (xE G d) G X mX7_weighAll) (hdep : 3 ≤ d) : ∀ (n : Nat) (q0 : Nat) (x1 : Int32) (m0 : XM), isa G q0 7 → xJ (xE G d) (xQ xrV G X mX7_weighAll) G l X mX7_weighAll 9 [(0, .ref (xad G q0)), (1, .int x1)] [] m0 (fX7_weighAll_9 (xln G) n q0 x1 m0) := by
  intro n
  induction n with
  | zero => intro q0 x1 m0 hq0; exact xj_none
  | succ n hr9 =>
    intro q0 x1 m0 hq0
    unfold fX7_weighAll_9
    generalize hrg9 : (fun q0 x1 m0 => fX7_weighAll_9 (xln G) n q0 x1 m0) = r9
    have hr9 : ∀ (q0 : Nat) (x1 : Int32) (m0 : XM), isa G q0 7 → xJ (xE G d) (xQ xrV G X mX7_weighAll) G l X mX7_weighAll 9 [(0, .ref (xad G q0)), (1, .int x1)] [] m0 (r9 q0 x1 m0) := by
      subst hrg9
      exact hr9
    clear hrg9
    refine xj_eq (xv_eq _ _) ?_
    refine xj_iload_n F 1 dX7_weighAll_9 rfl ?_
    refine xj_iconst F 1 dX7_weighAll_10 (by decide) ?_
    refine xj_aload_n F 0 dX7_weighAll_11 rfl ?_
    refine xj_get F hq0 lgX7_33 dX7_weighAll_12 (fun v1 => ?_)
    refine xj_ishl F dX7_weighAll_15 (fun v2 => ?_)
    refine xj_icmp_ge (tgt := 78) F dX7_weighAll_16 (by decide) ?_ ?_
    · exact xj_retV F rfl dX7_weighAll_78
    · refine xj_aload_n F 0 dX7_weighAll_19 rfl ?_
      refine xj_getR F hq0 lgX7_24 dX7_weighAll_20 (fun u3 hu3 => ?_)
      refine xj_iload_n F 1 dX7_weighAll_23 rfl ?_
      refine xj_bipush F 49 dX7_weighAll_24 (by decide) ?_
      refine xj_iast F hu3 dX7_weighAll_26 (fun m4 => ?_)
      refine xj_iconst F 0 dX7_weighAll_27 (by decide) ?_
      refine xj_istore_n (lv' := [(2, .int 0), (0, .ref (xad G q0)), (1, .int x1)]) F dX7_weighAll_28 (by decide) rfl ?_
      refine xj_sub (lv' := [(0, .ref (xad G q0)), (1, .int x1), (2, .int 0)]) [1, 2, 0] rfl ?_
      exact jX7_weighAll_29 F hdep hr9 XF q0 x1 0 m4 hq0
set_option maxRecDepth 20000 in
set_option maxHeartbeats 4000000 in
theorem wX7_weighAll {G : XG} {l : Launch} {d : Nat} (hn : xN G) (hdep : 3 ≤ d) {m0 : XM} (hT : xT G m0) {a0 : Nat} (ha0 : isa G a0 7) : ∀ z, fX7_weighAll (xln G) a0 m0 = some z → xMet G l mX7_weighAll d [.ref (xad G a0)] m0 (xrV z) := by
  refine xMet_of (by decide +kernel) hn hT (Nat.le_of_ble_eq_true rfl) (fun X F => ?_)
  refine xj_sub (lv' := [(0, .ref (xad G a0))]) [0] rfl ?_
  unfold fX7_weighAll
  refine xj_aload_n F 0 dX7_weighAll_0 rfl ?_
  refine xj_getR F ha0 lgX7_24 dX7_weighAll_1 (fun u1 hu1 => ?_)
  refine xj_iconst F 0 dX7_weighAll_4 (by decide) ?_
  refine xj_iconst F 0 dX7_weighAll_5 (by decide) ?_
  refine xj_iast F hu1 dX7_weighAll_6 (fun m2 => ?_)
  refine xj_iconst F 1 dX7_weighAll_7 (by decide) ?_
  refine xj_istore_n (lv' := [(1, .int 1), (0, .ref (xad G a0))]) F dX7_weighAll_8 (by decide) rfl ?_
  refine xj_sub (lv' := [(0, .ref (xad G a0)), (1, .int 1)]) [1, 0] rfl ?_
  exact jX7_weighAll_9 F hdep XF a0 1 m2 ha0
set_option maxRecDepth 20000 in
set_option maxHeartbeats 4000000 in
theorem wX7_fewestBroken {G : XG} {l : Launch} {d : Nat} (hn : xN G) (hdep : 4 ≤ d) {m0 : XM} (hT : xT G m0) {a0 : Nat} (ha0 : isa G a0 7) : ∀ z, fX7_fewestBroken (xln G) a0 m0 = some z → xMet G l mX7_fewestBroken d [.ref (xad G a0)] m0 (xrI z) := by
  refine xMet_of (by decide +kernel) hn hT (Nat.le_of_ble_eq_true rfl) (fun X F => ?_)
  refine xj_sub (lv' := [(0, .ref (xad G a0))]) [0] rfl ?_
  unfold fX7_fewestBroken
  refine xj_aload_n F 0 dX7_fewestBroken_0 rfl ?_
  refine xj_callVV (b := a0) (As := []) (d' := 3) F ha0 lmX7_107 rfl rfl (Nat.le_of_ble_eq_true rfl) (xfit (Nat.le_trans (Nat.le_of_ble_eq_true rfl) hdep)) dX7_fewestBroken_1 (fun hT z hz => wX7_weighAll (xnd F) (Nat.le_refl _) hT (a0 := a0) ha0 z hz) (fun m1 => ?_)
  refine xj_aload_n F 0 dX7_fewestBroken_4 rfl ?_
  refine xj_getR F ha0 lgX7_24 dX7_fewestBroken_5 (fun u2 hu2 => ?_)
  refine xj_iconst F 1 dX7_fewestBroken_8 (by decide) ?_
  refine xj_aload_n F 0 dX7_fewestBroken_9 rfl ?_
  refine xj_get F ha0 lgX7_33 dX7_fewestBroken_10 (fun v3 => ?_)
  refine xj_ishl F dX7_fewestBroken_13 (fun v4 => ?_)
  refine xj_iconst F 1 dX7_fewestBroken_14 (by decide) ?_
  refine xj_isub F dX7_fewestBroken_15 (fun v5 => ?_)
  refine xj_iald F hu2 dX7_fewestBroken_16 (fun v6 => ?_)
  exact xj_ret F rfl dX7_fewestBroken_17
set_option maxRecDepth 20000 in
set_option maxHeartbeats 4000000 in
theorem jX7_firstOfFewest_35 {G : XG} {l : Launch} {d : Nat} {X : XX} (F : xF (xE G d) G X mX7_firstOfFewest) (hdep : 3 ≤ d) {r2 : Nat → Int32 → Int32 → XM → Option (Int32 × XM)} (hr2 : ∀ (q0 : Nat) (x1 : Int32) (x2 : Int32) (m0 : XM), isa G q0 7 → xJ (xE G d) (xQ xrI G X mX7_firstOfFewest) G l X mX7_firstOfFewest 2 [(0, .ref (xad G q0)), (1, .int x1), (2, .int x2)] [] m0 (r2 q0 x1 x2 m0)) : ∀ (q0 : Nat) (x1 : Int32) (x2 : Int32) (m0 : XM), isa G q0 7 → xJ (xE G d) (xQ xrI G X mX7_firstOfFewest) G l X mX7_firstOfFewest 35 [(0, .ref (xad G q0)), (1, .int x1), (2, .int x2)] [] m0 (fX7_firstOfFewest_35 (xln G) r2 q0 x1 x2 m0) := by
  intro q0 x1 x2 m0 hq0
  unfold fX7_firstOfFewest_35
  refine xj_iinc F 2 1 (fun v1 => [(2, .int v1), (0, .ref (xad G q0)), (1, .int x1)]) dX7_firstOfFewest_35 rfl (by decide) (by decide) (fun _ => rfl) (fun v1 => ?_)
  refine xj_goto (tgt := 2) F dX7_firstOfFewest_38 (by decide) ?_
  refine xj_sub (lv' := [(0, .ref (xad G q0)), (1, .int x1), (2, .int v1)]) [1, 2, 0] rfl ?_
  exact hr2 q0 x1 v1 m0 hq0
set_option maxRecDepth 20000 in
set_option maxHeartbeats 4000000 in
theorem jX7_firstOfFewest_2 {G : XG} {l : Launch} {d : Nat} {X : XX} (F : xF (xE G d) G X mX7_firstOfFewest) (hdep : 3 ≤ d) : ∀ (n : Nat) (q0 : Nat) (x1 : Int32) (x2 : Int32) (m0 : XM), isa G q0 7 → xJ (xE G d) (xQ xrI G X mX7_firstOfFewest) G l X mX7_firstOfFewest 2 [(0, .ref (xad G q0)), (1, .int x1), (2, .int x2)] [] m0 (fX7_firstOfFewest_2 (xln G) n q0 x1 x2 m0) := by
  intro n
  induction n with
  | zero => intro q0 x1 x2 m0 hq0; exact xj_none
  | succ n hr2 =>
    intro q0 x1 x2 m0 hq0
    unfold fX7_firstOfFewest_2
    generalize hrg2 : (fun q0 x1 x2 m0 => fX7_firstOfFewest_2 (xln G) n q0 x1 x2 m0) = r2
    have hr2 : ∀ (q0 : Nat) (x1 : Int32) (x2 : Int32) (m0 : XM), isa G q0 7 → xJ (xE G d) (xQ xrI G X mX7_firstOfFewest) G l X mX7_firstOfFewest 2 [(0, .ref (xad G q0)), (1, .int x1), (2, .int x2)] [] m0 (r2 q0 x1 x2 m0) := by
      subst hrg2
      exact hr2
    clear hrg2
    refine xj_eq (xv_eq _ _) ?_
    refine xj_iload_n F 2 dX7_firstOfFewest_2 rfl ?_
    refine xj_aload_n F 0 dX7_firstOfFewest_3 rfl ?_
    refine xj_get F hq0 lgX7_33 dX7_firstOfFewest_4 (fun v1 => ?_)
    refine xj_icmp_ge (tgt := 41) F dX7_firstOfFewest_7 (by decide) ?_ ?_
    · refine xj_iconst F 0 dX7_firstOfFewest_41 (by decide) ?_
      exact xj_ret F rfl dX7_firstOfFewest_42
    · refine xj_iload_n F 1 dX7_firstOfFewest_10 rfl ?_
      refine xj_iload_n F 2 dX7_firstOfFewest_11 rfl ?_
      refine xj_ishr F dX7_firstOfFewest_12 (fun v2 => ?_)
      refine xj_iconst F 1 dX7_firstOfFewest_13 (by decide) ?_
      refine xj_iand F dX7_firstOfFewest_14 (fun v3 => ?_)
      refine xj_if_eq (tgt := 35) F dX7_firstOfFewest_15 (by decide) ?_ ?_
      · exact jX7_firstOfFewest_35 F hdep hr2 q0 x1 x2 m0 hq0
      · refine xj_aload_n F 0 dX7_firstOfFewest_18 rfl ?_
        refine xj_iload_n F 2 dX7_firstOfFewest_19 rfl ?_
        refine xj_iload_n F 1 dX7_firstOfFewest_20 rfl ?_
        refine xj_callVI (b := q0) (As := [.int x2, .int x1]) (d' := 2) F hq0 lmX7_110 rfl rfl (Nat.le_of_ble_eq_true rfl) (xfit (Nat.le_trans (Nat.le_of_ble_eq_true rfl) hdep)) dX7_firstOfFewest_21 (fun hT z hz => wX7_fewestWith (xnd F) (Nat.le_refl _) hT (a0 := q0) (a1 := x2) (a2 := x1) hq0 z hz) (fun v5 m4 => ?_)
        refine xj_aload_n F 0 dX7_firstOfFewest_24 rfl ?_
        refine xj_getR F hq0 lgX7_24 dX7_firstOfFewest_25 (fun u6 hu6 => ?_)
        refine xj_iload_n F 1 dX7_firstOfFewest_28 rfl ?_
        refine xj_iald F hu6 dX7_firstOfFewest_29 (fun v7 => ?_)
        refine xj_icmp_ne (tgt := 35) F dX7_firstOfFewest_30 (by decide) ?_ ?_
        · exact jX7_firstOfFewest_35 F hdep hr2 q0 x1 x2 m4 hq0
        · refine xj_iload_n F 2 dX7_firstOfFewest_33 rfl ?_
          exact xj_ret F rfl dX7_firstOfFewest_34
set_option maxRecDepth 20000 in
set_option maxHeartbeats 4000000 in
theorem wX7_firstOfFewest {G : XG} {l : Launch} {d : Nat} (hn : xN G) (hdep : 3 ≤ d) {m0 : XM} (hT : xT G m0) {a0 : Nat} {a1 : Int32} (ha0 : isa G a0 7) : ∀ z, fX7_firstOfFewest (xln G) a0 a1 m0 = some z → xMet G l mX7_firstOfFewest d [.ref (xad G a0), .int a1] m0 (xrI z) := by
  refine xMet_of (by decide +kernel) hn hT (Nat.le_of_ble_eq_true rfl) (fun X F => ?_)
  refine xj_sub (lv' := [(0, .ref (xad G a0)), (1, .int a1)]) [0, 1] rfl ?_
  unfold fX7_firstOfFewest
  refine xj_iconst F 0 dX7_firstOfFewest_0 (by decide) ?_
  refine xj_istore_n (lv' := [(2, .int 0), (0, .ref (xad G a0)), (1, .int a1)]) F dX7_firstOfFewest_1 (by decide) rfl ?_
  refine xj_sub (lv' := [(0, .ref (xad G a0)), (1, .int a1), (2, .int 0)]) [1, 2, 0] rfl ?_
  exact jX7_firstOfFewest_2 F hdep XF a0 a1 0 m0 ha0
set_option maxRecDepth 20000 in
set_option maxHeartbeats 4000000 in
theorem jX7_leastBreaking_17 {G : XG} {l : Launch} {d : Nat} {X : XX} (F : xF (xE G d) G X mX7_leastBreaking) (hdep : 4 ≤ d) : ∀ (n : Nat) (q0 : Nat) (x1 : Int32) (x2 : Int32) (x3 : Int32) (m0 : XM), isa G q0 7 → xJ (xE G d) (xQ xrI G X mX7_leastBreaking) G l X mX7_leastBreaking 17 [(0, .ref (xad G q0)), (1, .int x1), (2, .int x2), (3, .int x3)] [] m0 (fX7_leastBreaking_17 (xln G) n q0 x1 x2 x3 m0) := by
  intro n
  induction n with
  | zero => intro q0 x1 x2 x3 m0 hq0; exact xj_none
  | succ n hr17 =>
    intro q0 x1 x2 x3 m0 hq0
    unfold fX7_leastBreaking_17
    generalize hrg17 : (fun q0 x1 x2 x3 m0 => fX7_leastBreaking_17 (xln G) n q0 x1 x2 x3 m0) = r17
    have hr17 : ∀ (q0 : Nat) (x1 : Int32) (x2 : Int32) (x3 : Int32) (m0 : XM), isa G q0 7 → xJ (xE G d) (xQ xrI G X mX7_leastBreaking) G l X mX7_leastBreaking 17 [(0, .ref (xad G q0)), (1, .int x1), (2, .int x2), (3, .int x3)] [] m0 (r17 q0 x1 x2 x3 m0) := by
      subst hrg17
      exact hr17
    clear hrg17
    refine xj_eq (xv_eq _ _) ?_
    refine xj_iload_n F 3 dX7_leastBreaking_17 rfl ?_
    refine xj_aload_n F 0 dX7_leastBreaking_18 rfl ?_
    refine xj_get F hq0 lgX7_33 dX7_leastBreaking_19 (fun v1 => ?_)
    refine xj_icmp_ge (tgt := 55) F dX7_leastBreaking_22 (by decide) ?_ ?_
    · refine xj_iload_n F 1 dX7_leastBreaking_55 rfl ?_
      exact xj_ret F rfl dX7_leastBreaking_56
    · refine xj_aload_n F 0 dX7_leastBreaking_25 rfl ?_
      refine xj_iload_n F 2 dX7_leastBreaking_26 rfl ?_
      refine xj_callVI (b := q0) (As := [.int x2]) (d' := 3) F hq0 lmX7_118 rfl rfl (Nat.le_of_ble_eq_true rfl) (xfit (Nat.le_trans (Nat.le_of_ble_eq_true rfl) hdep)) dX7_leastBreaking_27 (fun hT z hz => wX7_firstOfFewest (xnd F) (Nat.le_refl _) hT (a0 := q0) (a1 := x2) hq0 z hz) (fun v3 m2 => ?_)
      refine xj_istore (lv' := [(4, .int v3), (0, .ref (xad G q0)), (1, .int x1), (2, .int x2), (3, .int x3)]) F dX7_leastBreaking_30 (by decide) rfl ?_
      refine xj_iload_n F 2 dX7_leastBreaking_32 rfl ?_
      refine xj_bipush F 10 dX7_leastBreaking_33 (by decide) ?_
      refine xj_imul F dX7_leastBreaking_35 (fun v4 => ?_)
      refine xj_iload F 0 dX7_leastBreaking_36 rfl ?_
      refine xj_iadd F dX7_leastBreaking_38 (fun v5 => ?_)
      refine xj_istore_n (lv' := [(1, .int v5), (4, .int v3), (0, .ref (xad G q0)), (2, .int x2), (3, .int x3)]) F dX7_leastBreaking_39 (by decide) rfl ?_
      refine xj_iload_n F 3 dX7_leastBreaking_40 rfl ?_
      refine xj_iconst F 1 dX7_leastBreaking_41 (by decide) ?_
      refine xj_iload F 1 dX7_leastBreaking_42 rfl ?_
      refine xj_ishl F dX7_leastBreaking_44 (fun v6 => ?_)
      refine xj_iconst F (-1) dX7_leastBreaking_45 (by decide) ?_
      refine xj_ixor F dX7_leastBreaking_46 (fun v7 => ?_)
      refine xj_iand F dX7_leastBreaking_47 (fun v8 => ?_)
      refine xj_istore_n (lv' := [(2, .int v8), (1, .int v5), (4, .int v3), (0, .ref (xad G q0)), (3, .int x3)]) F dX7_leastBreaking_48 (by decide) rfl ?_
      refine xj_iinc F 4 1 (fun v9 => [(3, .int v9), (2, .int v8), (1, .int v5), (4, .int v3), (0, .ref (xad G q0))]) dX7_leastBreaking_49 rfl (by decide) (by decide) (fun _ => rfl) (fun v9 => ?_)
      refine xj_goto (tgt := 17) F dX7_leastBreaking_52 (by decide) ?_
      refine xj_sub (lv' := [(0, .ref (xad G q0)), (1, .int v5), (2, .int v8), (3, .int v9)]) [4, 2, 1, 0] rfl ?_
      exact hr17 q0 v5 v8 v9 m2 hq0
set_option maxRecDepth 20000 in
set_option maxHeartbeats 4000000 in
theorem wX7_leastBreaking {G : XG} {l : Launch} {d : Nat} (hn : xN G) (hdep : 4 ≤ d) {m0 : XM} (hT : xT G m0) {a0 : Nat} (ha0 : isa G a0 7) : ∀ z, fX7_leastBreaking (xln G) a0 m0 = some z → xMet G l mX7_leastBreaking d [.ref (xad G a0)] m0 (xrI z) := by
  refine xMet_of (by decide +kernel) hn hT (Nat.le_of_ble_eq_true rfl) (fun X F => ?_)
  refine xj_sub (lv' := [(0, .ref (xad G a0))]) [0] rfl ?_
  unfold fX7_leastBreaking
  refine xj_aload_n F 0 dX7_leastBreaking_0 rfl ?_
  refine xj_callVV (b := a0) (As := []) (d' := 3) F ha0 lmX7_107 rfl rfl (Nat.le_of_ble_eq_true rfl) (xfit (Nat.le_trans (Nat.le_of_ble_eq_true rfl) hdep)) dX7_leastBreaking_1 (fun hT z hz => wX7_weighAll (xnd F) (Nat.le_refl _) hT (a0 := a0) ha0 z hz) (fun m1 => ?_)
  refine xj_iconst F 0 dX7_leastBreaking_4 (by decide) ?_
  refine xj_istore_n (lv' := [(1, .int 0), (0, .ref (xad G a0))]) F dX7_leastBreaking_5 (by decide) rfl ?_
  refine xj_iconst F 1 dX7_leastBreaking_6 (by decide) ?_
  refine xj_aload_n F 1 dX7_leastBreaking_7 rfl ?_
  refine xj_get F ha0 lgX7_33 dX7_leastBreaking_8 (fun v2 => ?_)
  refine xj_ishl F dX7_leastBreaking_11 (fun v3 => ?_)
  refine xj_iconst F 1 dX7_leastBreaking_12 (by decide) ?_
  refine xj_isub F dX7_leastBreaking_13 (fun v4 => ?_)
  refine xj_istore_n (lv' := [(2, .int v4), (1, .int 0), (0, .ref (xad G a0))]) F dX7_leastBreaking_14 (by decide) rfl ?_
  refine xj_iconst F 0 dX7_leastBreaking_15 (by decide) ?_
  refine xj_istore_n (lv' := [(3, .int 0), (2, .int v4), (1, .int 0), (0, .ref (xad G a0))]) F dX7_leastBreaking_16 (by decide) rfl ?_
  refine xj_sub (lv' := [(0, .ref (xad G a0)), (1, .int 0), (2, .int v4), (3, .int 0)]) [3, 2, 1, 0] rfl ?_
  exact jX7_leastBreaking_17 F hdep XF a0 0 v4 0 m1 ha0
