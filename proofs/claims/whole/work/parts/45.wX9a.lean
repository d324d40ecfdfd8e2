set_option maxRecDepth 20000 in
set_option maxHeartbeats 4000000 in
theorem wX9_thrown {G : XG} {l : Launch} {d : Nat} (hn : xN G) (hdep : 0 ≤ d) {m0 : XM} (hT : xT G m0) {a0 : Nat} (ha0 : isa G a0 9) : ∀ z, fX9_thrown (xln G) a0 m0 = some z → xMet G l mX9_thrown d [.ref (xad G a0)] m0 (xrI z) := by
  refine xMet_of (by decide +kernel) hn hT (Nat.le_of_ble_eq_true rfl) (fun X F => ?_)
  refine xj_sub (lv' := [(0, .ref (xad G a0))]) [0] rfl ?_
  unfold fX9_thrown
  refine xj_aload_n F 0 dX9_thrown_0 rfl ?_
  refine xj_get F ha0 lgX9_91 dX9_thrown_1 (fun v1 => ?_)
  exact xj_ret F rfl dX9_thrown_4
set_option maxRecDepth 20000 in
set_option maxHeartbeats 4000000 in
theorem jX9_bad_26 {G : XG} {l : Launch} {d : Nat} {X : XX} (F : xF (xE G d) G X mX9_bad) (hdep : 0 ≤ d) : ∀ (q0 : Nat) (m0 : XM), isa G q0 9 → xJ (xE G d) (xQ xrI G X mX9_bad) G l X mX9_bad 26 [(0, .ref (xad G q0))] [] m0 (fX9_bad_26 (xln G) q0 m0) := by
  intro q0 m0 hq0
  unfold fX9_bad_26
  refine xj_aload_n F 0 dX9_bad_26 rfl ?_
  refine xj_get F hq0 lgX9_91 dX9_bad_27 (fun v1 => ?_)
  refine xj_if_eq (tgt := 37) F dX9_bad_30 (by decide) ?_ ?_
  · refine xj_iconst F 0 dX9_bad_37 (by decide) ?_
    exact xj_retZ F rfl rfl dX9_bad_38
  · refine xj_iconst F 1 dX9_bad_33 (by decide) ?_
    refine xj_goto (tgt := 38) F dX9_bad_34 (by decide) ?_
    exact xj_retZ F rfl rfl dX9_bad_38
set_option maxRecDepth 20000 in
set_option maxHeartbeats 4000000 in
theorem wX9_bad {G : XG} {l : Launch} {d : Nat} (hn : xN G) (hdep : 0 ≤ d) {m0 : XM} (hT : xT G m0) {a0 : Nat} {a1 : Int32} {a2 : Int32} {a3 : Int32} (ha0 : isa G a0 9) : ∀ z, fX9_bad (xln G) a0 a1 a2 a3 m0 = some z → xMet G l mX9_bad d [.ref (xad G a0), .int a1, .int a2, .int a3] m0 (xrI z) := by
  refine xMet_of (by decide +kernel) hn hT (Nat.le_of_ble_eq_true rfl) (fun X F => ?_)
  refine xj_sub (lv' := [(0, .ref (xad G a0)), (1, .int a1), (2, .int a2), (3, .int a3)]) [0, 1, 2, 3] rfl ?_
  unfold fX9_bad
  refine xj_iload_n F 1 dX9_bad_0 rfl ?_
  refine xj_if_eq (tgt := 26) F dX9_bad_1 (by decide) ?_ ?_
  · refine xj_sub (lv' := [(0, .ref (xad G a0))]) [0] rfl ?_
    exact jX9_bad_26 F hdep a0 m0 ha0
  · refine xj_aload_n F 0 dX9_bad_4 rfl ?_
    refine xj_get F ha0 lgX9_91 dX9_bad_5 (fun v1 => ?_)
    refine xj_if_ne (tgt := 26) F dX9_bad_8 (by decide) ?_ ?_
    · refine xj_sub (lv' := [(0, .ref (xad G a0))]) [0] rfl ?_
      exact jX9_bad_26 F hdep a0 m0 ha0
    · refine xj_aload_n F 0 dX9_bad_11 rfl ?_
      refine xj_iload_n F 2 dX9_bad_12 rfl ?_
      refine xj_put F ha0 lpX9_91 dX9_bad_13 (fun m2 => ?_)
      refine xj_aload_n F 0 dX9_bad_16 rfl ?_
      refine xj_getR F ha0 lgX9_9 dX9_bad_17 (fun u3 hu3 => ?_)
      refine xj_iload_n F 3 dX9_bad_20 rfl ?_
      refine xj_dup2 F dX9_bad_21 rfl rfl ?_
      refine xj_iald F hu3 dX9_bad_22 (fun v4 => ?_)
      refine xj_iconst F 1 dX9_bad_23 (by decide) ?_
      refine xj_iadd F dX9_bad_24 (fun v5 => ?_)
      refine xj_iast F hu3 dX9_bad_25 (fun m6 => ?_)
      refine xj_sub (lv' := [(0, .ref (xad G a0))]) [0] rfl ?_
      exact jX9_bad_26 F hdep a0 m6 ha0
set_option maxRecDepth 20000 in
set_option maxHeartbeats 4000000 in
theorem jX9_in_14 {G : XG} {l : Launch} {d : Nat} {X : XX} (F : xF (xE G d) G X mX9_in) (hdep : 0 ≤ d) : ∀ (m0 : XM), xJ (xE G d) (xQ xrI G X mX9_in) G l X mX9_in 14 [] [] m0 (fX9_in_14 (xln G)  m0) := by
  intro m0
  unfold fX9_in_14
  refine xj_iconst F 0 dX9_in_14 (by decide) ?_
  exact xj_retZ F rfl rfl dX9_in_15
set_option maxRecDepth 20000 in
set_option maxHeartbeats 4000000 in
theorem wX9_in {G : XG} {l : Launch} {d : Nat} (hn : xN G) (hdep : 0 ≤ d) {m0 : XM} (hT : xT G m0) {a0 : Int32} {a1 : Int32} {a2 : Int32} : ∀ z, fX9_in (xln G) a0 a1 a2 m0 = some z → xMet G l mX9_in d [.int a0, .int a1, .int a2] m0 (xrI z) := by
  refine xMet_of (by decide +kernel) hn hT (Nat.le_of_ble_eq_true rfl) (fun X F => ?_)
  refine xj_sub (lv' := [(0, .int a0), (1, .int a1), (2, .int a2)]) [0, 1, 2] rfl ?_
  unfold fX9_in
  refine xj_iload_n F 0 dX9_in_0 rfl ?_
  refine xj_iload_n F 1 dX9_in_1 rfl ?_
  refine xj_icmp_lt (tgt := 14) F dX9_in_2 (by decide) ?_ ?_
  · refine xj_sub (lv' := []) [] rfl ?_
    exact jX9_in_14 F hdep m0
  · refine xj_iload_n F 0 dX9_in_5 rfl ?_
    refine xj_iload_n F 2 dX9_in_6 rfl ?_
    refine xj_icmp_gt (tgt := 14) F dX9_in_7 (by decide) ?_ ?_
    · refine xj_sub (lv' := []) [] rfl ?_
      exact jX9_in_14 F hdep m0
    · refine xj_iconst F 1 dX9_in_10 (by decide) ?_
      refine xj_goto (tgt := 15) F dX9_in_11 (by decide) ?_
      exact xj_retZ F rfl rfl dX9_in_15
set_option maxRecDepth 20000 in
set_option maxHeartbeats 4000000 in
theorem wX9_less {G : XG} {l : Launch} {d : Nat} (hn : xN G) (hdep : 0 ≤ d) {m0 : XM} (hT : xT G m0) {a0 : Int32} {a1 : Int32} : ∀ z, fX9_less (xln G) a0 a1 m0 = some z → xMet G l mX9_less d [.int a0, .int a1] m0 (xrI z) := by
  refine xMet_of (by decide +kernel) hn hT (Nat.le_of_ble_eq_true rfl) (fun X F => ?_)
  refine xj_sub (lv' := [(0, .int a0), (1, .int a1)]) [0, 1] rfl ?_
  unfold fX9_less
  refine xj_iload_n F 0 dX9_less_0 rfl ?_
  refine xj_iload_n F 1 dX9_less_1 rfl ?_
  refine xj_icmp_ge (tgt := 9) F dX9_less_2 (by decide) ?_ ?_
  · refine xj_iload_n F 1 dX9_less_9 rfl ?_
    exact xj_ret F rfl dX9_less_10
  · refine xj_iload_n F 0 dX9_less_5 rfl ?_
    refine xj_goto (tgt := 10) F dX9_less_6 (by decide) ?_
    exact xj_ret F rfl dX9_less_10
set_option maxRecDepth 20000 in
set_option maxHeartbeats 4000000 in
theorem wX9_more {G : XG} {l : Launch} {d : Nat} (hn : xN G) (hdep : 0 ≤ d) {m0 : XM} (hT : xT G m0) {a0 : Int32} {a1 : Int32} : ∀ z, fX9_more (xln G) a0 a1 m0 = some z → xMet G l mX9_more d [.int a0, .int a1] m0 (xrI z) := by
  refine xMet_of (by decide +kernel) hn hT (Nat.le_of_ble_eq_true rfl) (fun X F => ?_)
  refine xj_sub (lv' := [(0, .int a0), (1, .int a1)]) [0, 1] rfl ?_
  unfold fX9_more
  refine xj_iload_n F 0 dX9_more_0 rfl ?_
  refine xj_iload_n F 1 dX9_more_1 rfl ?_
  refine xj_icmp_le (tgt := 9) F dX9_more_2 (by decide) ?_ ?_
  · refine xj_iload_n F 1 dX9_more_9 rfl ?_
    exact xj_ret F rfl dX9_more_10
  · refine xj_iload_n F 0 dX9_more_5 rfl ?_
    refine xj_goto (tgt := 10) F dX9_more_6 (by decide) ?_
    exact xj_ret F rfl dX9_more_10
set_option maxRecDepth 20000 in
set_option maxHeartbeats 4000000 in
theorem jX9_bits_4 {G : XG} {l : Launch} {d : Nat} {X : XX} (F : xF (xE G d) G X mX9_bits) (hdep : 0 ≤ d) : ∀ (n : Nat) (x1 : Int32) (x2 : Int32) (m0 : XM), xJ (xE G d) (xQ xrI G X mX9_bits) G l X mX9_bits 4 [(1, .int x1), (2, .int x2)] [] m0 (fX9_bits_4 (xln G) n x1 x2 m0) := by
  intro n
  induction n with
  | zero => intro x1 x2 m0; exact xj_none
  | succ n hr4 =>
    intro x1 x2 m0
    unfold fX9_bits_4
    generalize hrg4 : (fun x1 x2 m0 => fX9_bits_4 (xln G) n x1 x2 m0) = r4
    have hr4 : ∀ (x1 : Int32) (x2 : Int32) (m0 : XM), xJ (xE G d) (xQ xrI G X mX9_bits) G l X mX9_bits 4 [(1, .int x1), (2, .int x2)] [] m0 (r4 x1 x2 m0) := by
      subst hrg4
      exact hr4
    clear hrg4
    refine xj_eq (xv_eq _ _) ?_
    refine xj_iload_n F 1 dX9_bits_4 rfl ?_
    refine xj_if_eq (tgt := 20) F dX9_bits_5 (by decide) ?_ ?_
    · refine xj_iload_n F 0 dX9_bits_20 rfl ?_
      exact xj_ret F rfl dX9_bits_21
    · refine xj_iinc F 0 1 (fun v1 => [(1, .int v1), (2, .int x2)]) dX9_bits_8 rfl (by decide) (by decide) (fun _ => rfl) (fun v1 => ?_)
      refine xj_iload_n F 1 dX9_bits_11 rfl ?_
      refine xj_iload_n F 1 dX9_bits_12 rfl ?_
      refine xj_iconst F 1 dX9_bits_13 (by decide) ?_
      refine xj_isub F dX9_bits_14 (fun v2 => ?_)
      refine xj_iand F dX9_bits_15 (fun v3 => ?_)
      refine xj_istore_n (lv' := [(2, .int v3), (1, .int v1)]) F dX9_bits_16 (by decide) rfl ?_
      refine xj_goto (tgt := 4) F dX9_bits_17 (by decide) ?_
      refine xj_sub (lv' := [(1, .int v1), (2, .int v3)]) [1, 0] rfl ?_
      exact hr4 v1 v3 m0
set_option maxRecDepth 20000 in
set_option maxHeartbeats 4000000 in
theorem wX9_bits {G : XG} {l : Launch} {d : Nat} (hn : xN G) (hdep : 0 ≤ d) {m0 : XM} (hT : xT G m0) {a0 : Int32} : ∀ z, fX9_bits (xln G) a0 m0 = some z → xMet G l mX9_bits d [.int a0] m0 (xrI z) := by
  refine xMet_of (by decide +kernel) hn hT (Nat.le_of_ble_eq_true rfl) (fun X F => ?_)
  refine xj_sub (lv' := [(0, .int a0)]) [0] rfl ?_
  unfold fX9_bits
  refine xj_iconst F 0 dX9_bits_0 (by decide) ?_
  refine xj_istore_n (lv' := [(1, .int 0), (0, .int a0)]) F dX9_bits_1 (by decide) rfl ?_
  refine xj_iload_n F 1 dX9_bits_2 rfl ?_
  refine xj_istore_n (lv' := [(2, .int a0), (1, .int 0), (0, .int a0)]) F dX9_bits_3 (by decide) rfl ?_
  refine xj_sub (lv' := [(1, .int 0), (2, .int a0)]) [1, 0] rfl ?_
  exact jX9_bits_4 F hdep XF 0 a0 m0
set_option maxRecDepth 20000 in
set_option maxHeartbeats 4000000 in
theorem jX9_feed_76 {G : XG} {l : Launch} {d : Nat} {X : XX} (F : xF (xE G d) G X mX9_feed) (hdep : 0 ≤ d) {r23 : Nat → Int32 → Int32 → Int32 → Int32 → Int32 → Int32 → XM → Option (Int32 × XM)} (hr23 : ∀ (q0 : Nat) (x1 : Int32) (x2 : Int32) (x3 : Int32) (x4 : Int32) (x5 : Int32) (x6 : Int32) (m0 : XM), isa G q0 9 → xJ (xE G d) (xQ xrI G X mX9_feed) G l X mX9_feed 23 [(0, .ref (xad G q0)), (1, .int x1), (2, .int x2), (3, .int x3), (4, .int x4), (5, .int x5), (6, .int x6)] [] m0 (r23 q0 x1 x2 x3 x4 x5 x6 m0)) : ∀ (q0 : Nat) (x1 : Int32) (x2 : Int32) (x3 : Int32) (x4 : Int32) (x5 : Int32) (x6 : Int32) (s0 : Int32) (m0 : XM), isa G q0 9 → xJ (xE G d) (xQ xrI G X mX9_feed) G l X mX9_feed 76 [(0, .ref (xad G q0)), (1, .int x1), (2, .int x2), (3, .int x3), (4, .int x4), (5, .int x5), (6, .int x6)] [.int s0] m0 (fX9_feed_76 (xln G) r23 q0 x1 x2 x3 x4 x5 x6 s0 m0) := by
  intro q0 x1 x2 x3 x4 x5 x6 s0 m0 hq0
  unfold fX9_feed_76
  refine xj_istore (lv' := [(7, .int s0), (0, .ref (xad G q0)), (1, .int x1), (2, .int x2), (3, .int x3), (4, .int x4), (5, .int x5), (6, .int x6)]) F dX9_feed_76 (by decide) rfl ?_
  refine xj_aload_n F 1 dX9_feed_78 rfl ?_
  refine xj_getR F hq0 lgX9_17 dX9_feed_79 (fun u1 hu1 => ?_)
  refine xj_aload_n F 1 dX9_feed_82 rfl ?_
  refine xj_get F hq0 lgX9_94 dX9_feed_83 (fun v2 => ?_)
  refine xj_iload F 0 dX9_feed_86 rfl ?_
  refine xj_bipush F 24 dX9_feed_88 (by decide) ?_
  refine xj_bipush F 8 dX9_feed_90 (by decide) ?_
  refine xj_iload F 7 dX9_feed_92 rfl ?_
  refine xj_iconst F 4 dX9_feed_94 (by decide) ?_
  refine xj_irem F dX9_feed_95 (fun v3 => ?_)
  refine xj_imul F dX9_feed_96 (fun v4 => ?_)
  refine xj_isub F dX9_feed_97 (fun v5 => ?_)
  refine xj_ishr F dX9_feed_98 (fun v6 => ?_)
  refine xj_sipush F 255 dX9_feed_99 (by decide) ?_
  refine xj_iand F dX9_feed_102 (fun v7 => ?_)
  refine xj_iast F hu1 dX9_feed_103 (fun m8 => ?_)
  refine xj_aload_n F 1 dX9_feed_104 rfl ?_
  refine xj_dup F dX9_feed_105 rfl ?_
  refine xj_get F hq0 lgX9_94 dX9_feed_106 (fun v9 => ?_)
  refine xj_iconst F 1 dX9_feed_109 (by decide) ?_
  refine xj_iadd F dX9_feed_110 (fun v10 => ?_)
  refine xj_put F hq0 lpX9_94 dX9_feed_111 (fun m11 => ?_)
  refine xj_iinc F 7 1 (fun v12 => [(6, .int v12), (7, .int s0), (0, .ref (xad G q0)), (1, .int x1), (2, .int x2), (3, .int x3), (4, .int x4), (5, .int x5)]) dX9_feed_114 rfl (by decide) (by decide) (fun _ => rfl) (fun v12 => ?_)
  refine xj_goto (tgt := 23) F dX9_feed_117 (by decide) ?_
  refine xj_sub (lv' := [(0, .ref (xad G q0)), (1, .int x1), (2, .int x2), (3, .int x3), (4, .int x4), (5, .int x5), (6, .int v12)]) [2, 3, 4, 5, 6, 7, 0] rfl ?_
  exact hr23 q0 x1 x2 x3 x4 x5 v12 m11 hq0
set_option maxRecDepth 20000 in
set_option maxHeartbeats 4000000 in
theorem jX9_feed_23 {G : XG} {l : Launch} {d : Nat} {X : XX} (F : xF (xE G d) G X mX9_feed) (hdep : 0 ≤ d) : ∀ (n : Nat) (q0 : Nat) (x1 : Int32) (x2 : Int32) (x3 : Int32) (x4 : Int32) (x5 : Int32) (x6 : Int32) (m0 : XM), isa G q0 9 → xJ (xE G d) (xQ xrI G X mX9_feed) G l X mX9_feed 23 [(0, .ref (xad G q0)), (1, .int x1), (2, .int x2), (3, .int x3), (4, .int x4), (5, .int x5), (6, .int x6)] [] m0 (fX9_feed_23 (xln G) n q0 x1 x2 x3 x4 x5 x6 m0) := by
  intro n
  induction n with
  | zero => intro q0 x1 x2 x3 x4 x5 x6 m0 hq0; exact xj_none
  | succ n hr23 =>
    intro q0 x1 x2 x3 x4 x5 x6 m0 hq0
    unfold fX9_feed_23
    generalize hrg23 : (fun q0 x1 x2 x3 x4 x5 x6 m0 => fX9_feed_23 (xln G) n q0 x1 x2 x3 x4 x5 x6 m0) = r23
    have hr23 : ∀ (q0 : Nat) (x1 : Int32) (x2 : Int32) (x3 : Int32) (x4 : Int32) (x5 : Int32) (x6 : Int32) (m0 : XM), isa G q0 9 → xJ (xE G d) (xQ xrI G X mX9_feed) G l X mX9_feed 23 [(0, .ref (xad G q0)), (1, .int x1), (2, .int x2), (3, .int x3), (4, .int x4), (5, .int x5), (6, .int x6)] [] m0 (r23 q0 x1 x2 x3 x4 x5 x6 m0) := by
      subst hrg23
      exact hr23
    clear hrg23
    refine xj_eq (xv_eq _ _) ?_
    refine xj_iload F 6 dX9_feed_23 rfl ?_
    refine xj_bipush F 20 dX9_feed_25 (by decide) ?_
    refine xj_icmp_ge (tgt := 120) F dX9_feed_27 (by decide) ?_ ?_
    · refine xj_aload_n F 0 dX9_feed_120 rfl ?_
      refine xj_get F hq0 lgX9_94 dX9_feed_121 (fun v1 => ?_)
      exact xj_ret F rfl dX9_feed_124
    · refine xj_iload F 6 dX9_feed_30 rfl ?_
      refine xj_iconst F 4 dX9_feed_32 (by decide) ?_
      refine xj_icmp_ge (tgt := 40) F dX9_feed_33 (by decide) ?_ ?_
      · refine xj_iload F 6 dX9_feed_40 rfl ?_
        refine xj_bipush F 8 dX9_feed_42 (by decide) ?_
        refine xj_icmp_ge (tgt := 51) F dX9_feed_44 (by decide) ?_ ?_
        · refine xj_iload F 6 dX9_feed_51 rfl ?_
          refine xj_bipush F 12 dX9_feed_53 (by decide) ?_
          refine xj_icmp_ge (tgt := 62) F dX9_feed_55 (by decide) ?_ ?_
          · refine xj_iload F 6 dX9_feed_62 rfl ?_
            refine xj_bipush F 16 dX9_feed_64 (by decide) ?_
            refine xj_icmp_ge (tgt := 74) F dX9_feed_66 (by decide) ?_ ?_
            · refine xj_iload F 5 dX9_feed_74 rfl ?_
              exact jX9_feed_76 F hdep hr23 q0 x1 x2 x3 x4 x5 x6 x5 m0 hq0
            · refine xj_iload F 4 dX9_feed_69 rfl ?_
              refine xj_goto (tgt := 76) F dX9_feed_71 (by decide) ?_
              exact jX9_feed_76 F hdep hr23 q0 x1 x2 x3 x4 x5 x6 x4 m0 hq0
          · refine xj_iload_n F 3 dX9_feed_58 rfl ?_
            refine xj_goto (tgt := 76) F dX9_feed_59 (by decide) ?_
            exact jX9_feed_76 F hdep hr23 q0 x1 x2 x3 x4 x5 x6 x3 m0 hq0
        · refine xj_iload_n F 2 dX9_feed_47 rfl ?_
          refine xj_goto (tgt := 76) F dX9_feed_48 (by decide) ?_
          exact jX9_feed_76 F hdep hr23 q0 x1 x2 x3 x4 x5 x6 x2 m0 hq0
      · refine xj_iload_n F 1 dX9_feed_36 rfl ?_
        refine xj_goto (tgt := 76) F dX9_feed_37 (by decide) ?_
        exact jX9_feed_76 F hdep hr23 q0 x1 x2 x3 x4 x5 x6 x1 m0 hq0
set_option maxRecDepth 20000 in
set_option maxHeartbeats 4000000 in
theorem wX9_feed {G : XG} {l : Launch} {d : Nat} (hn : xN G) (hdep : 0 ≤ d) {m0 : XM} (hT : xT G m0) {a0 : Nat} {a1 : Int32} {a2 : Int32} {a3 : Int32} {a4 : Int32} {a5 : Int32} (ha0 : isa G a0 9) : ∀ z, fX9_feed (xln G) a0 a1 a2 a3 a4 a5 m0 = some z → xMet G l mX9_feed d [.ref (xad G a0), .int a1, .int a2, .int a3, .int a4, .int a5] m0 (xrI z) := by
  refine xMet_of (by decide +kernel) hn hT (Nat.le_of_ble_eq_true rfl) (fun X F => ?_)
  refine xj_sub (lv' := [(0, .ref (xad G a0)), (1, .int a1), (2, .int a2), (3, .int a3), (4, .int a4), (5, .int a5)]) [0, 1, 2, 3, 4, 5] rfl ?_
  unfold fX9_feed
  refine xj_aload_n F 0 dX9_feed_0 rfl ?_
  refine xj_iconst F 0 dX9_feed_1 (by decide) ?_
  refine xj_put F ha0 lpX9_91 dX9_feed_2 (fun m1 => ?_)
  refine xj_aload_n F 0 dX9_feed_5 rfl ?_
  refine xj_get F ha0 lgX9_94 dX9_feed_6 (fun v2 => ?_)
  refine xj_bipush F 20 dX9_feed_9 (by decide) ?_
  refine xj_iadd F dX9_feed_11 (fun v3 => ?_)
  refine xj_sipush F 600 dX9_feed_12 (by decide) ?_
  refine xj_icmp_le (tgt := 20) F dX9_feed_15 (by decide) ?_ ?_
  · refine xj_iconst F 0 dX9_feed_20 (by decide) ?_
    refine xj_istore (lv' := [(6, .int 0), (0, .ref (xad G a0)), (1, .int a1), (2, .int a2), (3, .int a3), (4, .int a4), (5, .int a5)]) F dX9_feed_21 (by decide) rfl ?_
    refine xj_sub (lv' := [(0, .ref (xad G a0)), (1, .int a1), (2, .int a2), (3, .int a3), (4, .int a4), (5, .int a5), (6, .int 0)]) [1, 2, 3, 4, 5, 6, 0] rfl ?_
    exact jX9_feed_23 F hdep XF a0 a1 a2 a3 a4 a5 0 m1 ha0
  · refine xj_iconst F (-1) dX9_feed_18 (by decide) ?_
    exact xj_ret F rfl dX9_feed_19
set_option maxRecDepth 20000 in
set_option maxHeartbeats 4000000 in
theorem wX9_unitOf {G : XG} {l : Launch} {d : Nat} (hn : xN G) (hdep : 0 ≤ d) {m0 : XM} (hT : xT G m0) {a0 : Nat} {a1 : Int32} {a2 : Int32} (ha0 : isa G a0 10) : ∀ z, fX9_unitOf (xln G) a0 a1 a2 m0 = some z → xMet G l mX9_unitOf d [.ref (xad G a0), .int a1, .int a2] m0 (xrI z) := by
  refine xMet_of (by decide +kernel) hn hT (Nat.le_of_ble_eq_true rfl) (fun X F => ?_)
  refine xj_sub (lv' := [(0, .ref (xad G a0)), (1, .int a1), (2, .int a2)]) [0, 1, 2] rfl ?_
  unfold fX9_unitOf
  refine xj_aload_n F 0 dX9_unitOf_0 rfl ?_
  refine xj_iconst F 5 dX9_unitOf_1 (by decide) ?_
  refine xj_bipush F 15 dX9_unitOf_2 (by decide) ?_
  refine xj_iload_n F 1 dX9_unitOf_4 rfl ?_
  refine xj_imul F dX9_unitOf_5 (fun v1 => ?_)
  refine xj_iadd F dX9_unitOf_6 (fun v2 => ?_)
  refine xj_iload_n F 2 dX9_unitOf_7 rfl ?_
  refine xj_iadd F dX9_unitOf_8 (fun v3 => ?_)
  refine xj_iald F ha0 dX9_unitOf_9 (fun v4 => ?_)
  exact xj_ret F rfl dX9_unitOf_10
set_option maxRecDepth 20000 in
set_option maxHeartbeats 4000000 in
theorem wX9_memberAt {G : XG} {l : Launch} {d : Nat} (hn : xN G) (hdep : 0 ≤ d) {m0 : XM} (hT : xT G m0) {a0 : Nat} {a1 : Int32} {a2 : Int32} (ha0 : isa G a0 10) : ∀ z, fX9_memberAt (xln G) a0 a1 a2 m0 = some z → xMet G l mX9_memberAt d [.ref (xad G a0), .int a1, .int a2] m0 (xrI z) := by
  refine xMet_of (by decide +kernel) hn hT (Nat.le_of_ble_eq_true rfl) (fun X F => ?_)
  refine xj_sub (lv' := [(0, .ref (xad G a0)), (1, .int a1), (2, .int a2)]) [0, 1, 2] rfl ?_
  unfold fX9_memberAt
  refine xj_aload_n F 0 dX9_memberAt_0 rfl ?_
  refine xj_iconst F 5 dX9_memberAt_1 (by decide) ?_
  refine xj_bipush F 15 dX9_memberAt_2 (by decide) ?_
  refine xj_iload_n F 1 dX9_memberAt_4 rfl ?_
  refine xj_imul F dX9_memberAt_5 (fun v1 => ?_)
  refine xj_iadd F dX9_memberAt_6 (fun v2 => ?_)
  refine xj_iconst F 3 dX9_memberAt_7 (by decide) ?_
  refine xj_iadd F dX9_memberAt_8 (fun v3 => ?_)
  refine xj_iload_n F 2 dX9_memberAt_9 rfl ?_
  refine xj_iadd F dX9_memberAt_10 (fun v4 => ?_)
  refine xj_iald F ha0 dX9_memberAt_11 (fun v5 => ?_)
  exact xj_ret F rfl dX9_memberAt_12
set_option maxRecDepth 20000 in
set_option maxHeartbeats 4000000 in
theorem wX9_ofMember {G : XG} {l : Launch} {d : Nat} (hn : xN G) (hdep : 0 ≤ d) {m0 : XM} (hT : xT G m0) {a0 : Nat} {a1 : Int32} {a2 : Int32} (ha0 : isa G a0 10) : ∀ z, fX9_ofMember (xln G) a0 a1 a2 m0 = some z → xMet G l mX9_ofMember d [.ref (xad G a0), .int a1, .int a2] m0 (xrI z) := by
  refine xMet_of (by decide +kernel) hn hT (Nat.le_of_ble_eq_true rfl) (fun X F => ?_)
  refine xj_sub (lv' := [(0, .ref (xad G a0)), (1, .int a1), (2, .int a2)]) [0, 1, 2] rfl ?_
  unfold fX9_ofMember
  refine xj_aload_n F 0 dX9_ofMember_0 rfl ?_
  refine xj_bipush F 110 dX9_ofMember_1 (by decide) ?_
  refine xj_iconst F 5 dX9_ofMember_3 (by decide) ?_
  refine xj_iload_n F 1 dX9_ofMember_4 rfl ?_
  refine xj_imul F dX9_ofMember_5 (fun v1 => ?_)
  refine xj_iadd F dX9_ofMember_6 (fun v2 => ?_)
  refine xj_iload_n F 2 dX9_ofMember_7 rfl ?_
  refine xj_iadd F dX9_ofMember_8 (fun v3 => ?_)
  refine xj_iald F ha0 dX9_ofMember_9 (fun v4 => ?_)
  exact xj_ret F rfl dX9_ofMember_10
set_option maxRecDepth 20000 in
set_option maxHeartbeats 4000000 in
theorem wX9_ofAct {G : XG} {l : Launch} {d : Nat} (hn : xN G) (hdep : 0 ≤ d) {m0 : XM} (hT : xT G m0) {a0 : Nat} {a1 : Int32} {a2 : Int32} (ha0 : isa G a0 10) : ∀ z, fX9_ofAct (xln G) a0 a1 a2 m0 = some z → xMet G l mX9_ofAct d [.ref (xad G a0), .int a1, .int a2] m0 (xrI z) := by
  refine xMet_of (by decide +kernel) hn hT (Nat.le_of_ble_eq_true rfl) (fun X F => ?_)
  refine xj_sub (lv' := [(0, .ref (xad G a0)), (1, .int a1), (2, .int a2)]) [0, 1, 2] rfl ?_
  unfold fX9_ofAct
  refine xj_aload_n F 0 dX9_ofAct_0 rfl ?_
  refine xj_sipush F 530 dX9_ofAct_1 (by decide) ?_
  refine xj_iconst F 4 dX9_ofAct_4 (by decide) ?_
  refine xj_iload_n F 1 dX9_ofAct_5 rfl ?_
  refine xj_imul F dX9_ofAct_6 (fun v1 => ?_)
  refine xj_iadd F dX9_ofAct_7 (fun v2 => ?_)
  refine xj_iload_n F 2 dX9_ofAct_8 rfl ?_
  refine xj_iadd F dX9_ofAct_9 (fun v3 => ?_)
  refine xj_iald F ha0 dX9_ofAct_10 (fun v4 => ?_)
  exact xj_ret F rfl dX9_ofAct_11
set_option maxRecDepth 20000 in
set_option maxHeartbeats 4000000 in
theorem wX9_ofTerm {G : XG} {l : Launch} {d : Nat} (hn : xN G) (hdep : 0 ≤ d) {m0 : XM} (hT : xT G m0) {a0 : Nat} {a1 : Int32} {a2 : Int32} (ha0 : isa G a0 10) : ∀ z, fX9_ofTerm (xln G) a0 a1 a2 m0 = some z → xMet G l mX9_ofTerm d [.ref (xad G a0), .int a1, .int a2] m0 (xrI z) := by
  refine xMet_of (by decide +kernel) hn hT (Nat.le_of_ble_eq_true rfl) (fun X F => ?_)
  refine xj_sub (lv' := [(0, .ref (xad G a0)), (1, .int a1), (2, .int a2)]) [0, 1, 2] rfl ?_
  unfold fX9_ofTerm
  refine xj_aload_n F 0 dX9_ofTerm_0 rfl ?_
  refine xj_sipush F 1410 dX9_ofTerm_1 (by decide) ?_
  refine xj_bipush F 6 dX9_ofTerm_4 (by decide) ?_
  refine xj_iload_n F 1 dX9_ofTerm_6 rfl ?_
  refine xj_imul F dX9_ofTerm_7 (fun v1 => ?_)
  refine xj_iadd F dX9_ofTerm_8 (fun v2 => ?_)
  refine xj_iload_n F 2 dX9_ofTerm_9 rfl ?_
  refine xj_iadd F dX9_ofTerm_10 (fun v3 => ?_)
  refine xj_iald F ha0 dX9_ofTerm_11 (fun v4 => ?_)
  exact xj_ret F rfl dX9_ofTerm_12
set_option maxRecDepth 20000 in
set_option maxHeartbeats 4000000 in
theorem jX9_unitBy_2 {G : XG} {l : Launch} {d : Nat} {X : XX} (F : xF (xE G d) G X mX9_unitBy) (hdep : 1 ≤ d) : ∀ (n : Nat) (q0 : Nat) (x1 : Int32) (x2 : Int32) (m0 : XM), isa G q0 10 → xJ (xE G d) (xQ xrI G X mX9_unitBy) G l X mX9_unitBy 2 [(0, .ref (xad G q0)), (1, .int x1), (2, .int x2)] [] m0 (fX9_unitBy_2 (xln G) n q0 x1 x2 m0) := by
  intro n
  induction n with
  | zero => intro q0 x1 x2 m0 hq0; exact xj_none
  | succ n hr2 =>
    intro q0 x1 x2 m0 hq0
    unfold fX9_unitBy_2
    generalize hrg2 : (fun q0 x1 x2 m0 => fX9_unitBy_2 (xln G) n q0 x1 x2 m0) = r2
    have hr2 : ∀ (q0 : Nat) (x1 : Int32) (x2 : Int32) (m0 : XM), isa G q0 10 → xJ (xE G d) (xQ xrI G X mX9_unitBy) G l X mX9_unitBy 2 [(0, .ref (xad G q0)), (1, .int x1), (2, .int x2)] [] m0 (r2 q0 x1 x2 m0) := by
      subst hrg2
      exact hr2
    clear hrg2
    refine xj_eq (xv_eq _ _) ?_
    refine xj_iload_n F 2 dX9_unitBy_2 rfl ?_
    refine xj_aload_n F 0 dX9_unitBy_3 rfl ?_
    refine xj_iconst F 0 dX9_unitBy_4 (by decide) ?_
    refine xj_iald F hq0 dX9_unitBy_5 (fun v1 => ?_)
    refine xj_icmp_ge (tgt := 27) F dX9_unitBy_6 (by decide) ?_ ?_
    · refine xj_iconst F (-1) dX9_unitBy_27 (by decide) ?_
      exact xj_ret F rfl dX9_unitBy_28
    · refine xj_aload_n F 0 dX9_unitBy_9 rfl ?_
      refine xj_iload_n F 2 dX9_unitBy_10 rfl ?_
      refine xj_iconst F 0 dX9_unitBy_11 (by decide) ?_
      refine xj_callSI (As := [.ref (xad G q0), .int x2, .int 0]) (d' := 0) F lmX9_97 rfl rfl (Nat.le_of_ble_eq_true rfl) (xfit (Nat.le_trans (Nat.le_of_ble_eq_true rfl) hdep)) dX9_unitBy_12 (fun hT z hz => wX9_unitOf (xnd F) (Nat.le_refl _) hT (a0 := q0) (a1 := x2) (a2 := 0) hq0 z hz) (fun v3 m2 => ?_)
      refine xj_iload_n F 1 dX9_unitBy_15 rfl ?_
      refine xj_icmp_ne (tgt := 21) F dX9_unitBy_16 (by decide) ?_ ?_
      · refine xj_iinc F 2 1 (fun v4 => [(2, .int v4), (0, .ref (xad G q0)), (1, .int x1)]) dX9_unitBy_21 rfl (by decide) (by decide) (fun _ => rfl) (fun v4 => ?_)
        refine xj_goto (tgt := 2) F dX9_unitBy_24 (by decide) ?_
        refine xj_sub (lv' := [(0, .ref (xad G q0)), (1, .int x1), (2, .int v4)]) [1, 2, 0] rfl ?_
        exact hr2 q0 x1 v4 m2 hq0
      · refine xj_iload_n F 2 dX9_unitBy_19 rfl ?_
        exact xj_ret F rfl dX9_unitBy_20
set_option maxRecDepth 20000 in
set_option maxHeartbeats 4000000 in
theorem wX9_unitBy {G : XG} {l : Launch} {d : Nat} (hn : xN G) (hdep : 1 ≤ d) {m0 : XM} (hT : xT G m0) {a0 : Nat} {a1 : Int32} (ha0 : isa G a0 10) : ∀ z, fX9_unitBy (xln G) a0 a1 m0 = some z → xMet G l mX9_unitBy d [.ref (xad G a0), .int a1] m0 (xrI z) := by
  refine xMet_of (by decide +kernel) hn hT (Nat.le_of_ble_eq_true rfl) (fun X F => ?_)
  refine xj_sub (lv' := [(0, .ref (xad G a0)), (1, .int a1)]) [0, 1] rfl ?_
  unfold fX9_unitBy
  refine xj_iconst F 0 dX9_unitBy_0 (by decide) ?_
  refine xj_istore_n (lv' := [(2, .int 0), (0, .ref (xad G a0)), (1, .int a1)]) F dX9_unitBy_1 (by decide) rfl ?_
  refine xj_sub (lv' := [(0, .ref (xad G a0)), (1, .int a1), (2, .int 0)]) [1, 2, 0] rfl ?_
  exact jX9_unitBy_2 F hdep XF a0 a1 0 m0 ha0
set_option maxRecDepth 20000 in
set_option maxHeartbeats 4000000 in
theorem jX9_named_60 {G : XG} {l : Launch} {d : Nat} {X : XX} (F : xF (xE G d) G X mX9_named) (hdep : 1 ≤ d) {r2 : Nat → Int32 → Int32 → Int32 → XM → Option (Int32 × XM)} (hr2 : ∀ (q0 : Nat) (x1 : Int32) (x2 : Int32) (x3 : Int32) (m0 : XM), isa G q0 10 → xJ (xE G d) (xQ xrI G X mX9_named) G l X mX9_named 2 [(0, .ref (xad G q0)), (1, .int x1), (2, .int x2), (3, .int x3)] [] m0 (r2 q0 x1 x2 x3 m0)) : ∀ (q0 : Nat) (x1 : Int32) (x2 : Int32) (x3 : Int32) (m0 : XM), isa G q0 10 → xJ (xE G d) (xQ xrI G X mX9_named) G l X mX9_named 60 [(0, .ref (xad G q0)), (1, .int x1), (2, .int x2), (3, .int x3)] [] m0 (fX9_named_60 (xln G) r2 q0 x1 x2 x3 m0) := by
  intro q0 x1 x2 x3 m0 hq0
  unfold fX9_named_60
  refine xj_iinc F 3 1 (fun v1 => [(3, .int v1), (0, .ref (xad G q0)), (1, .int x1), (2, .int x2)]) dX9_named_60 rfl (by decide) (by decide) (fun _ => rfl) (fun v1 => ?_)
  refine xj_goto (tgt := 2) F dX9_named_63 (by decide) ?_
  refine xj_sub (lv' := [(0, .ref (xad G q0)), (1, .int x1), (2, .int x2), (3, .int v1)]) [1, 2, 3, 0] rfl ?_
  exact hr2 q0 x1 x2 v1 m0 hq0
set_option maxRecDepth 20000 in
set_option maxHeartbeats 4000000 in
theorem jX9_named_46 {G : XG} {l : Launch} {d : Nat} {X : XX} (F : xF (xE G d) G X mX9_named) (hdep : 1 ≤ d) {r2 : Nat → Int32 → Int32 → Int32 → XM → Option (Int32 × XM)} (hr2 : ∀ (q0 : Nat) (x1 : Int32) (x2 : Int32) (x3 : Int32) (m0 : XM), isa G q0 10 → xJ (xE G d) (xQ xrI G X mX9_named) G l X mX9_named 2 [(0, .ref (xad G q0)), (1, .int x1), (2, .int x2), (3, .int x3)] [] m0 (r2 q0 x1 x2 x3 m0)) : ∀ (q0 : Nat) (x1 : Int32) (x2 : Int32) (x3 : Int32) (x4 : Int32) (m0 : XM), isa G q0 10 → xJ (xE G d) (xQ xrI G X mX9_named) G l X mX9_named 46 [(0, .ref (xad G q0)), (1, .int x1), (2, .int x2), (3, .int x3), (4, .int x4)] [] m0 (fX9_named_46 (xln G) r2 q0 x1 x2 x3 x4 m0) := by
  intro q0 x1 x2 x3 x4 m0 hq0
  unfold fX9_named_46
  refine xj_aload_n F 0 dX9_named_46 rfl ?_
  refine xj_iload F 4 dX9_named_47 rfl ?_
  refine xj_iconst F 1 dX9_named_49 (by decide) ?_
  refine xj_callSI (As := [.ref (xad G q0), .int x4, .int 1]) (d' := 0) F lmX9_104 rfl rfl (Nat.le_of_ble_eq_true rfl) (xfit (Nat.le_trans (Nat.le_of_ble_eq_true rfl) hdep)) dX9_named_50 (fun hT z hz => wX9_ofMember (xnd F) (Nat.le_refl _) hT (a0 := q0) (a1 := x4) (a2 := 1) hq0 z hz) (fun v2 m1 => ?_)
  refine xj_iload_n F 2 dX9_named_53 rfl ?_
  refine xj_icmp_ne (tgt := 60) F dX9_named_54 (by decide) ?_ ?_
  · refine xj_sub (lv' := [(0, .ref (xad G q0)), (1, .int x1), (2, .int x2), (3, .int x3)]) [0, 1, 2, 3] rfl ?_
    exact jX9_named_60 F hdep hr2 q0 x1 x2 x3 m1 hq0
  · refine xj_iload F 4 dX9_named_57 rfl ?_
    exact xj_ret F rfl dX9_named_59
set_option maxRecDepth 20000 in
set_option maxHeartbeats 4000000 in
theorem jX9_named_2 {G : XG} {l : Launch} {d : Nat} {X : XX} (F : xF (xE G d) G X mX9_named) (hdep : 1 ≤ d) : ∀ (n : Nat) (q0 : Nat) (x1 : Int32) (x2 : Int32) (x3 : Int32) (m0 : XM), isa G q0 10 → xJ (xE G d) (xQ xrI G X mX9_named) G l X mX9_named 2 [(0, .ref (xad G q0)), (1, .int x1), (2, .int x2), (3, .int x3)] [] m0 (fX9_named_2 (xln G) n q0 x1 x2 x3 m0) := by
  intro n
  induction n with
  | zero => intro q0 x1 x2 x3 m0 hq0; exact xj_none
  | succ n hr2 =>
    intro q0 x1 x2 x3 m0 hq0
    unfold fX9_named_2
    generalize hrg2 : (fun q0 x1 x2 x3 m0 => fX9_named_2 (xln G) n q0 x1 x2 x3 m0) = r2
    have hr2 : ∀ (q0 : Nat) (x1 : Int32) (x2 : Int32) (x3 : Int32) (m0 : XM), isa G q0 10 → xJ (xE G d) (xQ xrI G X mX9_named) G l X mX9_named 2 [(0, .ref (xad G q0)), (1, .int x1), (2, .int x2), (3, .int x3)] [] m0 (r2 q0 x1 x2 x3 m0) := by
      subst hrg2
      exact hr2
    clear hrg2
    refine xj_eq (xv_eq _ _) ?_
    refine xj_iload_n F 3 dX9_named_2 rfl ?_
    refine xj_aload_n F 0 dX9_named_3 rfl ?_
    refine xj_iload_n F 1 dX9_named_4 rfl ?_
    refine xj_iconst F 2 dX9_named_5 (by decide) ?_
    refine xj_callSI (As := [.ref (xad G q0), .int x1, .int 2]) (d' := 0) F lmX9_97 rfl rfl (Nat.le_of_ble_eq_true rfl) (xfit (Nat.le_trans (Nat.le_of_ble_eq_true rfl) hdep)) dX9_named_6 (fun hT z hz => wX9_unitOf (xnd F) (Nat.le_refl _) hT (a0 := q0) (a1 := x1) (a2 := 2) hq0 z hz) (fun v2 m1 => ?_)
    refine xj_icmp_ge (tgt := 66) F dX9_named_9 (by decide) ?_ ?_
    · refine xj_iconst F (-1) dX9_named_66 (by decide) ?_
      exact xj_ret F rfl dX9_named_67
    · refine xj_aload_n F 0 dX9_named_12 rfl ?_
      refine xj_iload_n F 1 dX9_named_13 rfl ?_
      refine xj_iload_n F 3 dX9_named_14 rfl ?_
      refine xj_callSI (As := [.ref (xad G q0), .int x1, .int x3]) (d' := 0) F lmX9_101 rfl rfl (Nat.le_of_ble_eq_true rfl) (xfit (Nat.le_trans (Nat.le_of_ble_eq_true rfl) hdep)) dX9_named_15 (fun hT z hz => wX9_memberAt (xnd F) (Nat.le_refl _) hT (a0 := q0) (a1 := x1) (a2 := x3) hq0 z hz) (fun v4 m3 => ?_)
      refine xj_istore (lv' := [(4, .int v4), (0, .ref (xad G q0)), (1, .int x1), (2, .int x2), (3, .int x3)]) F dX9_named_18 (by decide) rfl ?_
      refine xj_aload_n F 1 dX9_named_20 rfl ?_
      refine xj_iload F 0 dX9_named_21 rfl ?_
      refine xj_iconst F 0 dX9_named_23 (by decide) ?_
      refine xj_callSI (As := [.ref (xad G q0), .int v4, .int 0]) (d' := 0) F lmX9_104 rfl rfl (Nat.le_of_ble_eq_true rfl) (xfit (Nat.le_trans (Nat.le_of_ble_eq_true rfl) hdep)) dX9_named_24 (fun hT z hz => wX9_ofMember (xnd F) (Nat.le_refl _) hT (a0 := q0) (a1 := v4) (a2 := 0) hq0 z hz) (fun v6 m5 => ?_)
      refine xj_istore (lv' := [(5, .int v6), (4, .int v4), (0, .ref (xad G q0)), (1, .int x1), (2, .int x2), (3, .int x3)]) F dX9_named_27 (by decide) rfl ?_
      refine xj_iload F 0 dX9_named_29 rfl ?_
      refine xj_if_eq (tgt := 46) F dX9_named_31 (by decide) ?_ ?_
      · refine xj_sub (lv' := [(0, .ref (xad G q0)), (1, .int x1), (2, .int x2), (3, .int x3), (4, .int v4)]) [2, 3, 4, 5, 1] rfl ?_
        exact jX9_named_46 F hdep hr2 q0 x1 x2 x3 v4 m5 hq0
      · refine xj_iload F 0 dX9_named_34 rfl ?_
        refine xj_iconst F 1 dX9_named_36 (by decide) ?_
        refine xj_icmp_eq (tgt := 46) F dX9_named_37 (by decide) ?_ ?_
        · refine xj_sub (lv' := [(0, .ref (xad G q0)), (1, .int x1), (2, .int x2), (3, .int x3), (4, .int v4)]) [2, 3, 4, 5, 1] rfl ?_
          exact jX9_named_46 F hdep hr2 q0 x1 x2 x3 v4 m5 hq0
        · refine xj_iload F 0 dX9_named_40 rfl ?_
          refine xj_iconst F 4 dX9_named_42 (by decide) ?_
          refine xj_icmp_ne (tgt := 60) F dX9_named_43 (by decide) ?_ ?_
          · refine xj_sub (lv' := [(0, .ref (xad G q0)), (1, .int x1), (2, .int x2), (3, .int x3)]) [2, 3, 4, 5] rfl ?_
            exact jX9_named_60 F hdep hr2 q0 x1 x2 x3 m5 hq0
          · refine xj_sub (lv' := [(0, .ref (xad G q0)), (1, .int x1), (2, .int x2), (3, .int x3), (4, .int v4)]) [2, 3, 4, 5, 1] rfl ?_
            exact jX9_named_46 F hdep hr2 q0 x1 x2 x3 v4 m5 hq0
set_option maxRecDepth 20000 in
set_option maxHeartbeats 4000000 in
theorem wX9_named {G : XG} {l : Launch} {d : Nat} (hn : xN G) (hdep : 1 ≤ d) {m0 : XM} (hT : xT G m0) {a0 : Nat} {a1 : Int32} {a2 : Int32} (ha0 : isa G a0 10) : ∀ z, fX9_named (xln G) a0 a1 a2 m0 = some z → xMet G l mX9_named d [.ref (xad G a0), .int a1, .int a2] m0 (xrI z) := by
  refine xMet_of (by decide +kernel) hn hT (Nat.le_of_ble_eq_true rfl) (fun X F => ?_)
  refine xj_sub (lv' := [(0, .ref (xad G a0)), (1, .int a1), (2, .int a2)]) [0, 1, 2] rfl ?_
  unfold fX9_named
  refine xj_iconst F 0 dX9_named_0 (by decide) ?_
  refine xj_istore_n (lv' := [(3, .int 0), (0, .ref (xad G a0)), (1, .int a1), (2, .int a2)]) F dX9_named_1 (by decide) rfl ?_
  refine xj_sub (lv' := [(0, .ref (xad G a0)), (1, .int a1), (2, .int a2), (3, .int 0)]) [1, 2, 3, 0] rfl ?_
  exact jX9_named_2 F hdep XF a0 a1 a2 0 m0 ha0
set_option maxRecDepth 20000 in
set_option maxHeartbeats 4000000 in
theorem wX9_byteAt {G : XG} {l : Launch} {d : Nat} (hn : xN G) (hdep : 0 ≤ d) {m0 : XM} (hT : xT G m0) {a0 : Nat} {a1 : Int32} (ha0 : isa G a0 9) : ∀ z, fX9_byteAt (xln G) a0 a1 m0 = some z → xMet G l mX9_byteAt d [.ref (xad G a0), .int a1] m0 (xrI z) := by
  refine xMet_of (by decide +kernel) hn hT (Nat.le_of_ble_eq_true rfl) (fun X F => ?_)
  refine xj_sub (lv' := [(0, .ref (xad G a0)), (1, .int a1)]) [0, 1] rfl ?_
  unfold fX9_byteAt
  refine xj_iload_n F 1 dX9_byteAt_0 rfl ?_
  refine xj_aload_n F 0 dX9_byteAt_1 rfl ?_
  refine xj_get F ha0 lgX9_107 dX9_byteAt_2 (fun v1 => ?_)
  refine xj_icmp_lt (tgt := 12) F dX9_byteAt_5 (by decide) ?_ ?_
  · refine xj_aload_n F 0 dX9_byteAt_12 rfl ?_
    refine xj_getR F ha0 lgX9_17 dX9_byteAt_13 (fun u2 hu2 => ?_)
    refine xj_iload_n F 1 dX9_byteAt_16 rfl ?_
    refine xj_iald F hu2 dX9_byteAt_17 (fun v3 => ?_)
    exact xj_ret F rfl dX9_byteAt_18
  · refine xj_iconst F (-1) dX9_byteAt_8 (by decide) ?_
    refine xj_goto (tgt := 18) F dX9_byteAt_9 (by decide) ?_
    exact xj_ret F rfl dX9_byteAt_18
set_option maxRecDepth 20000 in
set_option maxHeartbeats 4000000 in
theorem jX9_here_0 {G : XG} {l : Launch} {d : Nat} {X : XX} (F : xF (xE G d) G X mX9_here) (hdep : 1 ≤ d) : ∀ (n : Nat) (q0 : Nat) (m0 : XM), isa G q0 9 → xJ (xE G d) (xQ xrI G X mX9_here) G l X mX9_here 0 [(0, .ref (xad G q0))] [] m0 (fX9_here_0 (xln G) n q0 m0) := by
  intro n
  induction n with
  | zero => intro q0 m0 hq0; exact xj_none
  | succ n hr0 =>
    intro q0 m0 hq0
    unfold fX9_here_0
    generalize hrg0 : (fun q0 m0 => fX9_here_0 (xln G) n q0 m0) = r0
    have hr0 : ∀ (q0 : Nat) (m0 : XM), isa G q0 9 → xJ (xE G d) (xQ xrI G X mX9_here) G l X mX9_here 0 [(0, .ref (xad G q0))] [] m0 (r0 q0 m0) := by
      subst hrg0
      exact hr0
    clear hrg0
    refine xj_eq (xv_eq _ _) ?_
    refine xj_aload_n F 0 dX9_here_0 rfl ?_
    refine xj_aload_n F 0 dX9_here_1 rfl ?_
    refine xj_get F hq0 lgX9_110 dX9_here_2 (fun v1 => ?_)
    refine xj_callVI (b := q0) (As := [.int v1]) (d' := 0) F hq0 lmX9_113 rfl rfl (Nat.le_of_ble_eq_true rfl) (xfit (Nat.le_trans (Nat.le_of_ble_eq_true rfl) hdep)) dX9_here_5 (fun hT z hz => wX9_byteAt (xnd F) (Nat.le_refl _) hT (a0 := q0) (a1 := v1) hq0 z hz) (fun v3 m2 => ?_)
    refine xj_bipush F 32 dX9_here_8 (by decide) ?_
    refine xj_icmp_ne (tgt := 26) F dX9_here_10 (by decide) ?_ ?_
    · refine xj_aload_n F 0 dX9_here_26 rfl ?_
      refine xj_aload_n F 0 dX9_here_27 rfl ?_
      refine xj_get F hq0 lgX9_110 dX9_here_28 (fun v4 => ?_)
      refine xj_callVI (b := q0) (As := [.int v4]) (d' := 0) F hq0 lmX9_113 rfl rfl (Nat.le_of_ble_eq_true rfl) (xfit (Nat.le_trans (Nat.le_of_ble_eq_true rfl) hdep)) dX9_here_31 (fun hT z hz => wX9_byteAt (xnd F) (Nat.le_refl _) hT (a0 := q0) (a1 := v4) hq0 z hz) (fun v6 m5 => ?_)
      exact xj_ret F rfl dX9_here_34
    · refine xj_aload_n F 0 dX9_here_13 rfl ?_
      refine xj_dup F dX9_here_14 rfl ?_
      refine xj_get F hq0 lgX9_110 dX9_here_15 (fun v7 => ?_)
      refine xj_iconst F 1 dX9_here_18 (by decide) ?_
      refine xj_iadd F dX9_here_19 (fun v8 => ?_)
      refine xj_put F hq0 lpX9_110 dX9_here_20 (fun m9 => ?_)
      refine xj_goto (tgt := 0) F dX9_here_23 (by decide) ?_
      exact hr0 q0 m9 hq0
set_option maxRecDepth 20000 in
set_option maxHeartbeats 4000000 in
theorem wX9_here {G : XG} {l : Launch} {d : Nat} (hn : xN G) (hdep : 1 ≤ d) {m0 : XM} (hT : xT G m0) {a0 : Nat} (ha0 : isa G a0 9) : ∀ z, fX9_here (xln G) a0 m0 = some z → xMet G l mX9_here d [.ref (xad G a0)] m0 (xrI z) := by
  refine xMet_of (by decide +kernel) hn hT (Nat.le_of_ble_eq_true rfl) (fun X F => ?_)
  refine xj_sub (lv' := [(0, .ref (xad G a0))]) [0] rfl ?_
  unfold fX9_here
  exact jX9_here_0 F hdep XF a0 m0 ha0
set_option maxRecDepth 20000 in
set_option maxHeartbeats 4000000 in
theorem wX9_fine {G : XG} {l : Launch} {d : Nat} (hn : xN G) (hdep : 0 ≤ d) {m0 : XM} (hT : xT G m0) {a0 : Nat} (ha0 : isa G a0 9) : ∀ z, fX9_fine (xln G) a0 m0 = some z → xMet G l mX9_fine d [.ref (xad G a0)] m0 (xrI z) := by
  refine xMet_of (by decide +kernel) hn hT (Nat.le_of_ble_eq_true rfl) (fun X F => ?_)
  refine xj_sub (lv' := [(0, .ref (xad G a0))]) [0] rfl ?_
  unfold fX9_fine
  refine xj_aload_n F 0 dX9_fine_0 rfl ?_
  refine xj_get F ha0 lgX9_117 dX9_fine_1 (fun v1 => ?_)
  refine xj_if_ne (tgt := 11) F dX9_fine_4 (by decide) ?_ ?_
  · refine xj_iconst F 0 dX9_fine_11 (by decide) ?_
    exact xj_retZ F rfl rfl dX9_fine_12
  · refine xj_iconst F 1 dX9_fine_7 (by decide) ?_
    refine xj_goto (tgt := 12) F dX9_fine_8 (by decide) ?_
    exact xj_retZ F rfl rfl dX9_fine_12
set_option maxRecDepth 20000 in
set_option maxHeartbeats 4000000 in
theorem wX9_wrong {G : XG} {l : Launch} {d : Nat} (hn : xN G) (hdep : 0 ≤ d) {m0 : XM} (hT : xT G m0) {a0 : Nat} {a1 : Int32} {a2 : Int32} (ha0 : isa G a0 9) : ∀ z, fX9_wrong (xln G) a0 a1 a2 m0 = some z → xMet G l mX9_wrong d [.ref (xad G a0), .int a1, .int a2] m0 (xrI z) := by
  refine xMet_of (by decide +kernel) hn hT (Nat.le_of_ble_eq_true rfl) (fun X F => ?_)
  refine xj_sub (lv' := [(0, .ref (xad G a0)), (1, .int a1), (2, .int a2)]) [0, 1, 2] rfl ?_
  unfold fX9_wrong
  refine xj_aload_n F 0 dX9_wrong_0 rfl ?_
  refine xj_get F ha0 lgX9_117 dX9_wrong_1 (fun v1 => ?_)
  refine xj_if_ne (tgt := 17) F dX9_wrong_4 (by decide) ?_ ?_
  · refine xj_iconst F (-1) dX9_wrong_17 (by decide) ?_
    exact xj_ret F rfl dX9_wrong_18
  · refine xj_aload_n F 0 dX9_wrong_7 rfl ?_
    refine xj_iload_n F 1 dX9_wrong_8 rfl ?_
    refine xj_put F ha0 lpX9_117 dX9_wrong_9 (fun m2 => ?_)
    refine xj_aload_n F 0 dX9_wrong_12 rfl ?_
    refine xj_iload_n F 2 dX9_wrong_13 rfl ?_
    refine xj_put F ha0 lpX9_120 dX9_wrong_14 (fun m3 => ?_)
    refine xj_iconst F (-1) dX9_wrong_17 (by decide) ?_
    exact xj_ret F rfl dX9_wrong_18
set_option maxRecDepth 20000 in
set_option maxHeartbeats 4000000 in
theorem jX9_isSmall_16 {G : XG} {l : Launch} {d : Nat} {X : XX} (F : xF (xE G d) G X mX9_isSmall) (hdep : 0 ≤ d) : ∀ (m0 : XM), xJ (xE G d) (xQ xrI G X mX9_isSmall) G l X mX9_isSmall 16 [] [] m0 (fX9_isSmall_16 (xln G)  m0) := by
  intro m0
  unfold fX9_isSmall_16
  refine xj_iconst F 0 dX9_isSmall_16 (by decide) ?_
  exact xj_retZ F rfl rfl dX9_isSmall_17
set_option maxRecDepth 20000 in
set_option maxHeartbeats 4000000 in
theorem wX9_isSmall {G : XG} {l : Launch} {d : Nat} (hn : xN G) (hdep : 0 ≤ d) {m0 : XM} (hT : xT G m0) {a0 : Int32} : ∀ z, fX9_isSmall (xln G) a0 m0 = some z → xMet G l mX9_isSmall d [.int a0] m0 (xrI z) := by
  refine xMet_of (by decide +kernel) hn hT (Nat.le_of_ble_eq_true rfl) (fun X F => ?_)
  refine xj_sub (lv' := [(0, .int a0)]) [0] rfl ?_
  unfold fX9_isSmall
  refine xj_iload_n F 0 dX9_isSmall_0 rfl ?_
  refine xj_bipush F 97 dX9_isSmall_1 (by decide) ?_
  refine xj_icmp_lt (tgt := 16) F dX9_isSmall_3 (by decide) ?_ ?_
  · refine xj_sub (lv' := []) [] rfl ?_
    exact jX9_isSmall_16 F hdep m0
  · refine xj_iload_n F 0 dX9_isSmall_6 rfl ?_
    refine xj_bipush F 122 dX9_isSmall_7 (by decide) ?_
    refine xj_icmp_gt (tgt := 16) F dX9_isSmall_9 (by decide) ?_ ?_
    · refine xj_sub (lv' := []) [] rfl ?_
      exact jX9_isSmall_16 F hdep m0
    · refine xj_iconst F 1 dX9_isSmall_12 (by decide) ?_
      refine xj_goto (tgt := 17) F dX9_isSmall_13 (by decide) ?_
      exact xj_retZ F rfl rfl dX9_isSmall_17
set_option maxRecDepth 20000 in
set_option maxHeartbeats 4000000 in
theorem jX9_isBig_16 {G : XG} {l : Launch} {d : Nat} {X : XX} (F : xF (xE G d) G X mX9_isBig) (hdep : 0 ≤ d) : ∀ (m0 : XM), xJ (xE G d) (xQ xrI G X mX9_isBig) G l X mX9_isBig 16 [] [] m0 (fX9_isBig_16 (xln G)  m0) := by
  intro m0
  unfold fX9_isBig_16
  refine xj_iconst F 0 dX9_isBig_16 (by decide) ?_
  exact xj_retZ F rfl rfl dX9_isBig_17
set_option maxRecDepth 20000 in
set_option maxHeartbeats 4000000 in
theorem wX9_isBig {G : XG} {l : Launch} {d : Nat} (hn : xN G) (hdep : 0 ≤ d) {m0 : XM} (hT : xT G m0) {a0 : Int32} : ∀ z, fX9_isBig (xln G) a0 m0 = some z → xMet G l mX9_isBig d [.int a0] m0 (xrI z) := by
  refine xMet_of (by decide +kernel) hn hT (Nat.le_of_ble_eq_true rfl) (fun X F => ?_)
  refine xj_sub (lv' := [(0, .int a0)]) [0] rfl ?_
  unfold fX9_isBig
  refine xj_iload_n F 0 dX9_isBig_0 rfl ?_
  refine xj_bipush F 65 dX9_isBig_1 (by decide) ?_
  refine xj_icmp_lt (tgt := 16) F dX9_isBig_3 (by decide) ?_ ?_
  · refine xj_sub (lv' := []) [] rfl ?_
    exact jX9_isBig_16 F hdep m0
  · refine xj_iload_n F 0 dX9_isBig_6 rfl ?_
    refine xj_bipush F 90 dX9_isBig_7 (by decide) ?_
    refine xj_icmp_gt (tgt := 16) F dX9_isBig_9 (by decide) ?_ ?_
    · refine xj_sub (lv' := []) [] rfl ?_
      exact jX9_isBig_16 F hdep m0
    · refine xj_iconst F 1 dX9_isBig_12 (by decide) ?_
      refine xj_goto (tgt := 17) F dX9_isBig_13 (by decide) ?_
      exact xj_retZ F rfl rfl dX9_isBig_17
set_option maxRecDepth 20000 in
set_option maxHeartbeats 4000000 in
theorem jX9_isDigit_16 {G : XG} {l : Launch} {d : Nat} {X : XX} (F : xF (xE G d) G X mX9_isDigit) (hdep : 0 ≤ d) : ∀ (m0 : XM), xJ (xE G d) (xQ xrI G X mX9_isDigit) G l X mX9_isDigit 16 [] [] m0 (fX9_isDigit_16 (xln G)  m0) := by
  intro m0
  unfold fX9_isDigit_16
  refine xj_iconst F 0 dX9_isDigit_16 (by decide) ?_
  exact xj_retZ F rfl rfl dX9_isDigit_17
set_option maxRecDepth 20000 in
set_option maxHeartbeats 4000000 in
theorem wX9_isDigit {G : XG} {l : Launch} {d : Nat} (hn : xN G) (hdep : 0 ≤ d) {m0 : XM} (hT : xT G m0) {a0 : Int32} : ∀ z, fX9_isDigit (xln G) a0 m0 = some z → xMet G l mX9_isDigit d [.int a0] m0 (xrI z) := by
  refine xMet_of (by decide +kernel) hn hT (Nat.le_of_ble_eq_true rfl) (fun X F => ?_)
  refine xj_sub (lv' := [(0, .int a0)]) [0] rfl ?_
  unfold fX9_isDigit
  refine xj_iload_n F 0 dX9_isDigit_0 rfl ?_
  refine xj_bipush F 48 dX9_isDigit_1 (by decide) ?_
  refine xj_icmp_lt (tgt := 16) F dX9_isDigit_3 (by decide) ?_ ?_
  · refine xj_sub (lv' := []) [] rfl ?_
    exact jX9_isDigit_16 F hdep m0
  · refine xj_iload_n F 0 dX9_isDigit_6 rfl ?_
    refine xj_bipush F 57 dX9_isDigit_7 (by decide) ?_
    refine xj_icmp_gt (tgt := 16) F dX9_isDigit_9 (by decide) ?_ ?_
    · refine xj_sub (lv' := []) [] rfl ?_
      exact jX9_isDigit_16 F hdep m0
    · refine xj_iconst F 1 dX9_isDigit_12 (by decide) ?_
      refine xj_goto (tgt := 17) F dX9_isDigit_13 (by decide) ?_
      exact xj_retZ F rfl rfl dX9_isDigit_17
set_option maxRecDepth 20000 in
set_option maxHeartbeats 4000000 in
theorem jX9_isWord_67 {G : XG} {l : Launch} {d : Nat} {X : XX} (F : xF (xE G d) G X mX9_isWord) (hdep : 4 ≤ d) : ∀ (m0 : XM), xJ (xE G d) (xQ xrI G X mX9_isWord) G l X mX9_isWord 67 [] [] m0 (fX9_isWord_67 (xln G)  m0) := by
  intro m0
  unfold fX9_isWord_67
  refine xj_iconst F 0 dX9_isWord_67 (by decide) ?_
  exact xj_retZ F rfl rfl dX9_isWord_68
set_option maxRecDepth 20000 in
set_option maxHeartbeats 4000000 in
theorem jX9_isWord_39 {G : XG} {l : Launch} {d : Nat} {X : XX} (F : xF (xE G d) G X mX9_isWord) (hdep : 4 ≤ d) : ∀ (q0 : Nat) (q1 : Nat) (x2 : Int32) (m0 : XM), isa G q0 9 → q1 < 16 → xJ (xE G d) (xQ xrI G X mX9_isWord) G l X mX9_isWord 39 [(0, .ref (xad G q0)), (1, .ref (G.1.2.1 q1)), (2, .int x2)] [] m0 (fX9_isWord_39 (xln G) q0 q1 x2 m0) := by
  intro q0 q1 x2 m0 hq0 hq1
  unfold fX9_isWord_39
  refine xj_iload_n F 2 dX9_isWord_39 rfl ?_
  refine xj_aload_n F 1 dX9_isWord_40 rfl ?_
  refine xj_callTI (i := q1) (As := []) (d' := 1) F hq1 lmX9_127 rfl rfl (Nat.le_of_ble_eq_true rfl) (xfit (Nat.le_trans (Nat.le_of_ble_eq_true rfl) hdep)) dX9_isWord_41 (fun hT z hz => wJ0_length_8abf5 (xnd F) (Nat.le_refl _) hT (a0 := q1) hq1 z hz) (fun v2 m1 => ?_)
  refine xj_icmp_ne (tgt := 67) F dX9_isWord_44 (by decide) ?_ ?_
  · refine xj_sub (lv' := []) [] rfl ?_
    exact jX9_isWord_67 F hdep m1
  · refine xj_aload_n F 0 dX9_isWord_47 rfl ?_
    refine xj_aload_n F 0 dX9_isWord_48 rfl ?_
    refine xj_get F hq0 lgX9_110 dX9_isWord_49 (fun v3 => ?_)
    refine xj_iload_n F 2 dX9_isWord_52 rfl ?_
    refine xj_iadd F dX9_isWord_53 (fun v4 => ?_)
    refine xj_callVI (b := q0) (As := [.int v4]) (d' := 0) F hq0 lmX9_113 rfl rfl (Nat.le_of_ble_eq_true rfl) (xfit (Nat.le_trans (Nat.le_of_ble_eq_true rfl) hdep)) dX9_isWord_54 (fun hT z hz => wX9_byteAt (xnd F) (Nat.le_refl _) hT (a0 := q0) (a1 := v4) hq0 z hz) (fun v6 m5 => ?_)
    refine xj_callSI (As := [.int v6]) (d' := 0) F lmX9_136 rfl rfl (Nat.le_of_ble_eq_true rfl) (xfit (Nat.le_trans (Nat.le_of_ble_eq_true rfl) hdep)) dX9_isWord_57 (fun hT z hz => wX9_isSmall (xnd F) (Nat.le_refl _) hT (a0 := v6)  z hz) (fun v8 m7 => ?_)
    refine xj_if_ne (tgt := 67) F dX9_isWord_60 (by decide) ?_ ?_
    · refine xj_sub (lv' := []) [] rfl ?_
      exact jX9_isWord_67 F hdep m7
    · refine xj_iconst F 1 dX9_isWord_63 (by decide) ?_
      refine xj_goto (tgt := 68) F dX9_isWord_64 (by decide) ?_
      exact xj_retZ F rfl rfl dX9_isWord_68
set_option maxRecDepth 20000 in
set_option maxHeartbeats 4000000 in
theorem jX9_isWord_7 {G : XG} {l : Launch} {d : Nat} {X : XX} (F : xF (xE G d) G X mX9_isWord) (hdep : 4 ≤ d) : ∀ (n : Nat) (q0 : Nat) (q1 : Nat) (x2 : Int32) (m0 : XM), isa G q0 9 → q1 < 16 → xJ (xE G d) (xQ xrI G X mX9_isWord) G l X mX9_isWord 7 [(0, .ref (xad G q0)), (1, .ref (G.1.2.1 q1)), (2, .int x2)] [] m0 (fX9_isWord_7 (xln G) n q0 q1 x2 m0) := by
  intro n
  induction n with
  | zero => intro q0 q1 x2 m0 hq0 hq1; exact xj_none
  | succ n hr7 =>
    intro q0 q1 x2 m0 hq0 hq1
    unfold fX9_isWord_7
    generalize hrg7 : (fun q0 q1 x2 m0 => fX9_isWord_7 (xln G) n q0 q1 x2 m0) = r7
    have hr7 : ∀ (q0 : Nat) (q1 : Nat) (x2 : Int32) (m0 : XM), isa G q0 9 → q1 < 16 → xJ (xE G d) (xQ xrI G X mX9_isWord) G l X mX9_isWord 7 [(0, .ref (xad G q0)), (1, .ref (G.1.2.1 q1)), (2, .int x2)] [] m0 (r7 q0 q1 x2 m0) := by
      subst hrg7
      exact hr7
    clear hrg7
    refine xj_eq (xv_eq _ _) ?_
    refine xj_iload_n F 2 dX9_isWord_7 rfl ?_
    refine xj_aload_n F 1 dX9_isWord_8 rfl ?_
    refine xj_callTI (i := q1) (As := []) (d' := 1) F hq1 lmX9_127 rfl rfl (Nat.le_of_ble_eq_true rfl) (xfit (Nat.le_trans (Nat.le_of_ble_eq_true rfl) hdep)) dX9_isWord_9 (fun hT z hz => wJ0_length_8abf5 (xnd F) (Nat.le_refl _) hT (a0 := q1) hq1 z hz) (fun v2 m1 => ?_)
    refine xj_icmp_ge (tgt := 39) F dX9_isWord_12 (by decide) ?_ ?_
    · exact jX9_isWord_39 F hdep q0 q1 x2 m1 hq0 hq1
    · refine xj_aload_n F 0 dX9_isWord_15 rfl ?_
      refine xj_aload_n F 0 dX9_isWord_16 rfl ?_
      refine xj_get F hq0 lgX9_110 dX9_isWord_17 (fun v3 => ?_)
      refine xj_iload_n F 2 dX9_isWord_20 rfl ?_
      refine xj_iadd F dX9_isWord_21 (fun v4 => ?_)
      refine xj_callVI (b := q0) (As := [.int v4]) (d' := 0) F hq0 lmX9_113 rfl rfl (Nat.le_of_ble_eq_true rfl) (xfit (Nat.le_trans (Nat.le_of_ble_eq_true rfl) hdep)) dX9_isWord_22 (fun hT z hz => wX9_byteAt (xnd F) (Nat.le_refl _) hT (a0 := q0) (a1 := v4) hq0 z hz) (fun v6 m5 => ?_)
      refine xj_aload_n F 1 dX9_isWord_25 rfl ?_
      refine xj_iload_n F 2 dX9_isWord_26 rfl ?_
      refine xj_callTI (i := q1) (As := [.int x2]) (d' := 3) F hq1 lmX9_132 rfl rfl (Nat.le_of_ble_eq_true rfl) (xfit (Nat.le_trans (Nat.le_of_ble_eq_true rfl) hdep)) dX9_isWord_27 (fun hT z hz => wJ0_charAt_5068e (xnd F) (Nat.le_refl _) hT (a0 := q1) (a1 := x2) hq1 z hz) (fun v8 m7 => ?_)
      refine xj_icmp_ne (tgt := 39) F dX9_isWord_30 (by decide) ?_ ?_
      · exact jX9_isWord_39 F hdep q0 q1 x2 m7 hq0 hq1
      · refine xj_iinc F 2 1 (fun v9 => [(2, .int v9), (0, .ref (xad G q0)), (1, .ref (G.1.2.1 q1))]) dX9_isWord_33 rfl (by decide) (by decide) (fun _ => rfl) (fun v9 => ?_)
        refine xj_goto (tgt := 7) F dX9_isWord_36 (by decide) ?_
        refine xj_sub (lv' := [(0, .ref (xad G q0)), (1, .ref (G.1.2.1 q1)), (2, .int v9)]) [1, 2, 0] rfl ?_
        exact hr7 q0 q1 v9 m7 hq0 hq1
set_option maxRecDepth 20000 in
set_option maxHeartbeats 4000000 in
theorem wX9_isWord {G : XG} {l : Launch} {d : Nat} (hn : xN G) (hdep : 4 ≤ d) {m0 : XM} (hT : xT G m0) {a0 : Nat} {a1 : Nat} (ha0 : isa G a0 9) (ha1 : a1 < 16) : ∀ z, fX9_isWord (xln G) a0 a1 m0 = some z → xMet G l mX9_isWord d [.ref (xad G a0), .ref (G.1.2.1 a1)] m0 (xrI z) := by
  refine xMet_of (by decide +kernel) hn hT (Nat.le_of_ble_eq_true rfl) (fun X F => ?_)
  refine xj_sub (lv' := [(0, .ref (xad G a0)), (1, .ref (G.1.2.1 a1))]) [0, 1] rfl ?_
  unfold fX9_isWord
  refine xj_aload_n F 0 dX9_isWord_0 rfl ?_
  refine xj_callVI (b := a0) (As := []) (d' := 1) F ha0 lmX9_123 rfl rfl (Nat.le_of_ble_eq_true rfl) (xfit (Nat.le_trans (Nat.le_of_ble_eq_true rfl) hdep)) dX9_isWord_1 (fun hT z hz => wX9_here (xnd F) (Nat.le_refl _) hT (a0 := a0) ha0 z hz) (fun v2 m1 => ?_)
  refine xj_pop F dX9_isWord_4 rfl ?_
  refine xj_iconst F 0 dX9_isWord_5 (by decide) ?_
  refine xj_istore_n (lv' := [(2, .int 0), (0, .ref (xad G a0)), (1, .ref (G.1.2.1 a1))]) F dX9_isWord_6 (by decide) rfl ?_
  refine xj_sub (lv' := [(0, .ref (xad G a0)), (1, .ref (G.1.2.1 a1)), (2, .int 0)]) [1, 2, 0] rfl ?_
  exact jX9_isWord_7 F hdep XF a0 a1 0 m1 ha0 ha1
set_option maxRecDepth 20000 in
set_option maxHeartbeats 4000000 in
theorem wX9_takesWord {G : XG} {l : Launch} {d : Nat} (hn : xN G) (hdep : 5 ≤ d) {m0 : XM} (hT : xT G m0) {a0 : Nat} {a1 : Nat} (ha0 : isa G a0 9) (ha1 : a1 < 16) : ∀ z, fX9_takesWord (xln G) a0 a1 m0 = some z → xMet G l mX9_takesWord d [.ref (xad G a0), .ref (G.1.2.1 a1)] m0 (xrI z) := by
  refine xMet_of (by decide +kernel) hn hT (Nat.le_of_ble_eq_true rfl) (fun X F => ?_)
  refine xj_sub (lv' := [(0, .ref (xad G a0)), (1, .ref (G.1.2.1 a1))]) [0, 1] rfl ?_
  unfold fX9_takesWord
  refine xj_aload_n F 0 dX9_takesWord_0 rfl ?_
  refine xj_callVI (b := a0) (As := []) (d' := 0) F ha0 lmX9_140 rfl rfl (Nat.le_of_ble_eq_true rfl) (xfit (Nat.le_trans (Nat.le_of_ble_eq_true rfl) hdep)) dX9_takesWord_1 (fun hT z hz => wX9_fine (xnd F) (Nat.le_refl _) hT (a0 := a0) ha0 z hz) (fun v2 m1 => ?_)
  refine xj_if_eq (tgt := 15) F dX9_takesWord_4 (by decide) ?_ ?_
  · refine xj_iconst F 0 dX9_takesWord_15 (by decide) ?_
    exact xj_retZ F rfl rfl dX9_takesWord_16
  · refine xj_aload_n F 0 dX9_takesWord_7 rfl ?_
    refine xj_aload_n F 1 dX9_takesWord_8 rfl ?_
    refine xj_callVI (b := a0) (As := [.ref (G.1.2.1 a1)]) (d' := 4) F ha0 lmX9_144 rfl rfl (Nat.le_of_ble_eq_true rfl) (xfit (Nat.le_trans (Nat.le_of_ble_eq_true rfl) hdep)) dX9_takesWord_9 (fun hT z hz => wX9_isWord (xnd F) (Nat.le_refl _) hT (a0 := a0) (a1 := a1) ha0 ha1 z hz) (fun v4 m3 => ?_)
    refine xj_if_ne (tgt := 17) F dX9_takesWord_12 (by decide) ?_ ?_
    · refine xj_aload_n F 0 dX9_takesWord_17 rfl ?_
      refine xj_dup F dX9_takesWord_18 rfl ?_
      refine xj_get F ha0 lgX9_110 dX9_takesWord_19 (fun v5 => ?_)
      refine xj_aload_n F 1 dX9_takesWord_22 rfl ?_
      refine xj_callTI (i := a1) (As := []) (d' := 1) F ha1 lmX9_127 rfl rfl (Nat.le_of_ble_eq_true rfl) (xfit (Nat.le_trans (Nat.le_of_ble_eq_true rfl) hdep)) dX9_takesWord_23 (fun hT z hz => wJ0_length_8abf5 (xnd F) (Nat.le_refl _) hT (a0 := a1) ha1 z hz) (fun v7 m6 => ?_)
      refine xj_iadd F dX9_takesWord_26 (fun v8 => ?_)
      refine xj_put F ha0 lpX9_110 dX9_takesWord_27 (fun m9 => ?_)
      refine xj_iconst F 1 dX9_takesWord_30 (by decide) ?_
      exact xj_retZ F rfl rfl dX9_takesWord_31
    · refine xj_iconst F 0 dX9_takesWord_15 (by decide) ?_
      exact xj_retZ F rfl rfl dX9_takesWord_16
set_option maxRecDepth 20000 in
set_option maxHeartbeats 4000000 in
theorem wX9_takesSign {G : XG} {l : Launch} {d : Nat} (hn : xN G) (hdep : 2 ≤ d) {m0 : XM} (hT : xT G m0) {a0 : Nat} {a1 : Int32} (ha0 : isa G a0 9) : ∀ z, fX9_takesSign (xln G) a0 a1 m0 = some z → xMet G l mX9_takesSign d [.ref (xad G a0), .int a1] m0 (xrI z) := by
  refine xMet_of (by decide +kernel) hn hT (Nat.le_of_ble_eq_true rfl) (fun X F => ?_)
  refine xj_sub (lv' := [(0, .ref (xad G a0)), (1, .int a1)]) [0, 1] rfl ?_
  unfold fX9_takesSign
  refine xj_aload_n F 0 dX9_takesSign_0 rfl ?_
  refine xj_callVI (b := a0) (As := []) (d' := 0) F ha0 lmX9_140 rfl rfl (Nat.le_of_ble_eq_true rfl) (xfit (Nat.le_trans (Nat.le_of_ble_eq_true rfl) hdep)) dX9_takesSign_1 (fun hT z hz => wX9_fine (xnd F) (Nat.le_refl _) hT (a0 := a0) ha0 z hz) (fun v2 m1 => ?_)
  refine xj_if_eq (tgt := 15) F dX9_takesSign_4 (by decide) ?_ ?_
  · refine xj_iconst F 0 dX9_takesSign_15 (by decide) ?_
    exact xj_retZ F rfl rfl dX9_takesSign_16
  · refine xj_aload_n F 0 dX9_takesSign_7 rfl ?_
    refine xj_callVI (b := a0) (As := []) (d' := 1) F ha0 lmX9_123 rfl rfl (Nat.le_of_ble_eq_true rfl) (xfit (Nat.le_trans (Nat.le_of_ble_eq_true rfl) hdep)) dX9_takesSign_8 (fun hT z hz => wX9_here (xnd F) (Nat.le_refl _) hT (a0 := a0) ha0 z hz) (fun v4 m3 => ?_)
    refine xj_iload_n F 1 dX9_takesSign_11 rfl ?_
    refine xj_icmp_eq (tgt := 17) F dX9_takesSign_12 (by decide) ?_ ?_
    · refine xj_aload_n F 0 dX9_takesSign_17 rfl ?_
      refine xj_dup F dX9_takesSign_18 rfl ?_
      refine xj_get F ha0 lgX9_110 dX9_takesSign_19 (fun v5 => ?_)
      refine xj_iconst F 1 dX9_takesSign_22 (by decide) ?_
      refine xj_iadd F dX9_takesSign_23 (fun v6 => ?_)
      refine xj_put F ha0 lpX9_110 dX9_takesSign_24 (fun m7 => ?_)
      refine xj_iconst F 1 dX9_takesSign_27 (by decide) ?_
      exact xj_retZ F rfl rfl dX9_takesSign_28
    · refine xj_iconst F 0 dX9_takesSign_15 (by decide) ?_
      exact xj_retZ F rfl rfl dX9_takesSign_16
set_option maxRecDepth 20000 in
set_option maxHeartbeats 4000000 in
theorem wX9_must {G : XG} {l : Launch} {d : Nat} (hn : xN G) (hdep : 3 ≤ d) {m0 : XM} (hT : xT G m0) {a0 : Nat} {a1 : Int32} (ha0 : isa G a0 9) : ∀ z, fX9_must (xln G) a0 a1 m0 = some z → xMet G l mX9_must d [.ref (xad G a0), .int a1] m0 (xrV z) := by
  refine xMet_of (by decide +kernel) hn hT (Nat.le_of_ble_eq_true rfl) (fun X F => ?_)
  refine xj_sub (lv' := [(0, .ref (xad G a0)), (1, .int a1)]) [0, 1] rfl ?_
  unfold fX9_must
  refine xj_aload_n F 0 dX9_must_0 rfl ?_
  refine xj_callVI (b := a0) (As := []) (d' := 0) F ha0 lmX9_140 rfl rfl (Nat.le_of_ble_eq_true rfl) (xfit (Nat.le_trans (Nat.le_of_ble_eq_true rfl) hdep)) dX9_must_1 (fun hT z hz => wX9_fine (xnd F) (Nat.le_refl _) hT (a0 := a0) ha0 z hz) (fun v2 m1 => ?_)
  refine xj_if_eq (tgt := 25) F dX9_must_4 (by decide) ?_ ?_
  · exact xj_retV F rfl dX9_must_25
  · refine xj_aload_n F 0 dX9_must_7 rfl ?_
    refine xj_iload_n F 1 dX9_must_8 rfl ?_
    refine xj_callVI (b := a0) (As := [.int a1]) (d' := 2) F ha0 lmX9_148 rfl rfl (Nat.le_of_ble_eq_true rfl) (xfit (Nat.le_trans (Nat.le_of_ble_eq_true rfl) hdep)) dX9_must_9 (fun hT z hz => wX9_takesSign (xnd F) (Nat.le_refl _) hT (a0 := a0) (a1 := a1) ha0 z hz) (fun v4 m3 => ?_)
    refine xj_if_ne (tgt := 25) F dX9_must_12 (by decide) ?_ ?_
    · exact xj_retV F rfl dX9_must_25
    · refine xj_aload_n F 0 dX9_must_15 rfl ?_
      refine xj_iconst F 1 dX9_must_16 (by decide) ?_
      refine xj_aload_n F 0 dX9_must_17 rfl ?_
      refine xj_get F ha0 lgX9_110 dX9_must_18 (fun v5 => ?_)
      refine xj_callVI (b := a0) (As := [.int 1, .int v5]) (d' := 0) F ha0 lmX9_151 rfl rfl (Nat.le_of_ble_eq_true rfl) (xfit (Nat.le_trans (Nat.le_of_ble_eq_true rfl) hdep)) dX9_must_21 (fun hT z hz => wX9_wrong (xnd F) (Nat.le_refl _) hT (a0 := a0) (a1 := 1) (a2 := v5) ha0 z hz) (fun v7 m6 => ?_)
      refine xj_pop F dX9_must_24 rfl ?_
      exact xj_retV F rfl dX9_must_25
set_option maxRecDepth 20000 in
set_option maxHeartbeats 4000000 in
theorem jX9_isUnitHere_50 {G : XG} {l : Launch} {d : Nat} {X : XX} (F : xF (xE G d) G X mX9_isUnitHere) (hdep : 2 ≤ d) : ∀ (m0 : XM), xJ (xE G d) (xQ xrI G X mX9_isUnitHere) G l X mX9_isUnitHere 50 [] [] m0 (fX9_isUnitHere_50 (xln G)  m0) := by
  intro m0
  unfold fX9_isUnitHere_50
  refine xj_iconst F 0 dX9_isUnitHere_50 (by decide) ?_
  exact xj_retZ F rfl rfl dX9_isUnitHere_51
set_option maxRecDepth 20000 in
set_option maxHeartbeats 4000000 in
theorem wX9_isUnitHere {G : XG} {l : Launch} {d : Nat} (hn : xN G) (hdep : 2 ≤ d) {m0 : XM} (hT : xT G m0) {a0 : Nat} (ha0 : isa G a0 9) : ∀ z, fX9_isUnitHere (xln G) a0 m0 = some z → xMet G l mX9_isUnitHere d [.ref (xad G a0)] m0 (xrI z) := by
  refine xMet_of (by decide +kernel) hn hT (Nat.le_of_ble_eq_true rfl) (fun X F => ?_)
  refine xj_sub (lv' := [(0, .ref (xad G a0))]) [0] rfl ?_
  unfold fX9_isUnitHere
  refine xj_aload_n F 0 dX9_isUnitHere_0 rfl ?_
  refine xj_callVI (b := a0) (As := []) (d' := 1) F ha0 lmX9_123 rfl rfl (Nat.le_of_ble_eq_true rfl) (xfit (Nat.le_trans (Nat.le_of_ble_eq_true rfl) hdep)) dX9_isUnitHere_1 (fun hT z hz => wX9_here (xnd F) (Nat.le_refl _) hT (a0 := a0) ha0 z hz) (fun v2 m1 => ?_)
  refine xj_bipush F 65 dX9_isUnitHere_4 (by decide) ?_
  refine xj_bipush F 71 dX9_isUnitHere_6 (by decide) ?_
  refine xj_callSI (As := [.int v2, .int 65, .int 71]) (d' := 0) F lmX9_155 rfl rfl (Nat.le_of_ble_eq_true rfl) (xfit (Nat.le_trans (Nat.le_of_ble_eq_true rfl) hdep)) dX9_isUnitHere_8 (fun hT z hz => wX9_in (xnd F) (Nat.le_refl _) hT (a0 := v2) (a1 := 65) (a2 := 71)  z hz) (fun v4 m3 => ?_)
  refine xj_if_eq (tgt := 50) F dX9_isUnitHere_11 (by decide) ?_ ?_
  · refine xj_sub (lv' := []) [] rfl ?_
    exact jX9_isUnitHere_50 F hdep m3
  · refine xj_aload_n F 0 dX9_isUnitHere_14 rfl ?_
    refine xj_aload_n F 0 dX9_isUnitHere_15 rfl ?_
    refine xj_get F ha0 lgX9_110 dX9_isUnitHere_16 (fun v5 => ?_)
    refine xj_iconst F 1 dX9_isUnitHere_19 (by decide) ?_
    refine xj_iadd F dX9_isUnitHere_20 (fun v6 => ?_)
    refine xj_callVI (b := a0) (As := [.int v6]) (d' := 0) F ha0 lmX9_113 rfl rfl (Nat.le_of_ble_eq_true rfl) (xfit (Nat.le_trans (Nat.le_of_ble_eq_true rfl) hdep)) dX9_isUnitHere_21 (fun hT z hz => wX9_byteAt (xnd F) (Nat.le_refl _) hT (a0 := a0) (a1 := v6) ha0 z hz) (fun v8 m7 => ?_)
    refine xj_callSI (As := [.int v8]) (d' := 0) F lmX9_136 rfl rfl (Nat.le_of_ble_eq_true rfl) (xfit (Nat.le_trans (Nat.le_of_ble_eq_true rfl) hdep)) dX9_isUnitHere_24 (fun hT z hz => wX9_isSmall (xnd F) (Nat.le_refl _) hT (a0 := v8)  z hz) (fun v10 m9 => ?_)
    refine xj_if_ne (tgt := 50) F dX9_isUnitHere_27 (by decide) ?_ ?_
    · refine xj_sub (lv' := []) [] rfl ?_
      exact jX9_isUnitHere_50 F hdep m9
    · refine xj_aload_n F 0 dX9_isUnitHere_30 rfl ?_
      refine xj_aload_n F 0 dX9_isUnitHere_31 rfl ?_
      refine xj_get F ha0 lgX9_110 dX9_isUnitHere_32 (fun v11 => ?_)
      refine xj_iconst F 1 dX9_isUnitHere_35 (by decide) ?_
      refine xj_iadd F dX9_isUnitHere_36 (fun v12 => ?_)
      refine xj_callVI (b := a0) (As := [.int v12]) (d' := 0) F ha0 lmX9_113 rfl rfl (Nat.le_of_ble_eq_true rfl) (xfit (Nat.le_trans (Nat.le_of_ble_eq_true rfl) hdep)) dX9_isUnitHere_37 (fun hT z hz => wX9_byteAt (xnd F) (Nat.le_refl _) hT (a0 := a0) (a1 := v12) ha0 z hz) (fun v14 m13 => ?_)
      refine xj_callSI (As := [.int v14]) (d' := 0) F lmX9_159 rfl rfl (Nat.le_of_ble_eq_true rfl) (xfit (Nat.le_trans (Nat.le_of_ble_eq_true rfl) hdep)) dX9_isUnitHere_40 (fun hT z hz => wX9_isBig (xnd F) (Nat.le_refl _) hT (a0 := v14)  z hz) (fun v16 m15 => ?_)
      refine xj_if_ne (tgt := 50) F dX9_isUnitHere_43 (by decide) ?_ ?_
      · refine xj_sub (lv' := []) [] rfl ?_
        exact jX9_isUnitHere_50 F hdep m15
      · refine xj_iconst F 1 dX9_isUnitHere_46 (by decide) ?_
        refine xj_goto (tgt := 51) F dX9_isUnitHere_47 (by decide) ?_
        exact xj_retZ F rfl rfl dX9_isUnitHere_51
set_option maxRecDepth 20000 in
set_option maxHeartbeats 4000000 in
theorem wX9_letterHere {G : XG} {l : Launch} {d : Nat} (hn : xN G) (hdep : 3 ≤ d) {m0 : XM} (hT : xT G m0) {a0 : Nat} (ha0 : isa G a0 9) : ∀ z, fX9_letterHere (xln G) a0 m0 = some z → xMet G l mX9_letterHere d [.ref (xad G a0)] m0 (xrI z) := by
  refine xMet_of (by decide +kernel) hn hT (Nat.le_of_ble_eq_true rfl) (fun X F => ?_)
  refine xj_sub (lv' := [(0, .ref (xad G a0))]) [0] rfl ?_
  unfold fX9_letterHere
  refine xj_aload_n F 0 dX9_letterHere_0 rfl ?_
  refine xj_callVI (b := a0) (As := []) (d' := 0) F ha0 lmX9_140 rfl rfl (Nat.le_of_ble_eq_true rfl) (xfit (Nat.le_trans (Nat.le_of_ble_eq_true rfl) hdep)) dX9_letterHere_1 (fun hT z hz => wX9_fine (xnd F) (Nat.le_refl _) hT (a0 := a0) ha0 z hz) (fun v2 m1 => ?_)
  refine xj_if_ne (tgt := 9) F dX9_letterHere_4 (by decide) ?_ ?_
  · refine xj_aload_n F 0 dX9_letterHere_9 rfl ?_
    refine xj_callVI (b := a0) (As := []) (d' := 2) F ha0 lmX9_162 rfl rfl (Nat.le_of_ble_eq_true rfl) (xfit (Nat.le_trans (Nat.le_of_ble_eq_true rfl) hdep)) dX9_letterHere_10 (fun hT z hz => wX9_isUnitHere (xnd F) (Nat.le_refl _) hT (a0 := a0) ha0 z hz) (fun v4 m3 => ?_)
    refine xj_if_ne (tgt := 30) F dX9_letterHere_13 (by decide) ?_ ?_
    · refine xj_aload_n F 0 dX9_letterHere_30 rfl ?_
      refine xj_dup F dX9_letterHere_31 rfl ?_
      refine xj_get F ha0 lgX9_110 dX9_letterHere_32 (fun v5 => ?_)
      refine xj_iconst F 1 dX9_letterHere_35 (by decide) ?_
      refine xj_iadd F dX9_letterHere_36 (fun v6 => ?_)
      refine xj_put F ha0 lpX9_110 dX9_letterHere_37 (fun m7 => ?_)
      refine xj_aload_n F 0 dX9_letterHere_40 rfl ?_
      refine xj_aload_n F 0 dX9_letterHere_41 rfl ?_
      refine xj_get F ha0 lgX9_110 dX9_letterHere_42 (fun v8 => ?_)
      refine xj_iconst F 1 dX9_letterHere_45 (by decide) ?_
      refine xj_isub F dX9_letterHere_46 (fun v9 => ?_)
      refine xj_callVI (b := a0) (As := [.int v9]) (d' := 0) F ha0 lmX9_113 rfl rfl (Nat.le_of_ble_eq_true rfl) (xfit (Nat.le_trans (Nat.le_of_ble_eq_true rfl) hdep)) dX9_letterHere_47 (fun hT z hz => wX9_byteAt (xnd F) (Nat.le_refl _) hT (a0 := a0) (a1 := v9) ha0 z hz) (fun v11 m10 => ?_)
      refine xj_bipush F 65 dX9_letterHere_50 (by decide) ?_
      refine xj_isub F dX9_letterHere_52 (fun v12 => ?_)
      exact xj_ret F rfl dX9_letterHere_53
    · refine xj_iconst F 0 dX9_letterHere_16 (by decide) ?_
      refine xj_aload_n F 0 dX9_letterHere_17 rfl ?_
      refine xj_iconst F 1 dX9_letterHere_18 (by decide) ?_
      refine xj_aload_n F 0 dX9_letterHere_19 rfl ?_
      refine xj_get F ha0 lgX9_110 dX9_letterHere_20 (fun v13 => ?_)
      refine xj_callVI (b := a0) (As := [.int 1, .int v13]) (d' := 0) F ha0 lmX9_151 rfl rfl (Nat.le_of_ble_eq_true rfl) (xfit (Nat.le_trans (Nat.le_of_ble_eq_true rfl) hdep)) dX9_letterHere_23 (fun hT z hz => wX9_wrong (xnd F) (Nat.le_refl _) hT (a0 := a0) (a1 := 1) (a2 := v13) ha0 z hz) (fun v15 m14 => ?_)
      refine xj_callSI (As := [.int 0, .int v15]) (d' := 0) F lmX9_165 rfl rfl (Nat.le_of_ble_eq_true rfl) (xfit (Nat.le_trans (Nat.le_of_ble_eq_true rfl) hdep)) dX9_letterHere_26 (fun hT z hz => wX9_more (xnd F) (Nat.le_refl _) hT (a0 := 0) (a1 := v15)  z hz) (fun v17 m16 => ?_)
      exact xj_ret F rfl dX9_letterHere_29
  · refine xj_iconst F 0 dX9_letterHere_7 (by decide) ?_
    exact xj_ret F rfl dX9_letterHere_8
set_option maxRecDepth 20000 in
set_option maxHeartbeats 4000000 in
theorem jX9_nameHere_51 {G : XG} {l : Launch} {d : Nat} {X : XX} (F : xF (xE G d) G X mX9_nameHere) (hdep : 2 ≤ d) : ∀ (q0 : Nat) (m0 : XM), isa G q0 9 → xJ (xE G d) (xQ xrI G X mX9_nameHere) G l X mX9_nameHere 51 [(0, .ref (xad G q0))] [] m0 (fX9_nameHere_51 (xln G) q0 m0) := by
  intro q0 m0 hq0
  unfold fX9_nameHere_51
  refine xj_iconst F 0 dX9_nameHere_51 (by decide) ?_
  refine xj_aload_n F 0 dX9_nameHere_52 rfl ?_
  refine xj_iconst F 1 dX9_nameHere_53 (by decide) ?_
  refine xj_aload_n F 0 dX9_nameHere_54 rfl ?_
  refine xj_get F hq0 lgX9_110 dX9_nameHere_55 (fun v1 => ?_)
  refine xj_callVI (b := q0) (As := [.int 1, .int v1]) (d' := 0) F hq0 lmX9_151 rfl rfl (Nat.le_of_ble_eq_true rfl) (xfit (Nat.le_trans (Nat.le_of_ble_eq_true rfl) hdep)) dX9_nameHere_58 (fun hT z hz => wX9_wrong (xnd F) (Nat.le_refl _) hT (a0 := q0) (a1 := 1) (a2 := v1) hq0 z hz) (fun v3 m2 => ?_)
  refine xj_callSI (As := [.int 0, .int v3]) (d' := 0) F lmX9_165 rfl rfl (Nat.le_of_ble_eq_true rfl) (xfit (Nat.le_trans (Nat.le_of_ble_eq_true rfl) hdep)) dX9_nameHere_61 (fun hT z hz => wX9_more (xnd F) (Nat.le_refl _) hT (a0 := 0) (a1 := v3)  z hz) (fun v5 m4 => ?_)
  exact xj_ret F rfl dX9_nameHere_64
set_option maxRecDepth 20000 in
set_option maxHeartbeats 4000000 in
theorem wX9_nameHere {G : XG} {l : Launch} {d : Nat} (hn : xN G) (hdep : 2 ≤ d) {m0 : XM} (hT : xT G m0) {a0 : Nat} (ha0 : isa G a0 9) : ∀ z, fX9_nameHere (xln G) a0 m0 = some z → xMet G l mX9_nameHere d [.ref (xad G a0)] m0 (xrI z) := by
  refine xMet_of (by decide +kernel) hn hT (Nat.le_of_ble_eq_true rfl) (fun X F => ?_)
  refine xj_sub (lv' := [(0, .ref (xad G a0))]) [0] rfl ?_
  unfold fX9_nameHere
  refine xj_aload_n F 0 dX9_nameHere_0 rfl ?_
  refine xj_callVI (b := a0) (As := []) (d' := 0) F ha0 lmX9_140 rfl rfl (Nat.le_of_ble_eq_true rfl) (xfit (Nat.le_trans (Nat.le_of_ble_eq_true rfl) hdep)) dX9_nameHere_1 (fun hT z hz => wX9_fine (xnd F) (Nat.le_refl _) hT (a0 := a0) ha0 z hz) (fun v2 m1 => ?_)
  refine xj_if_ne (tgt := 9) F dX9_nameHere_4 (by decide) ?_ ?_
  · refine xj_aload_n F 0 dX9_nameHere_9 rfl ?_
    refine xj_callVI (b := a0) (As := []) (d' := 1) F ha0 lmX9_123 rfl rfl (Nat.le_of_ble_eq_true rfl) (xfit (Nat.le_trans (Nat.le_of_ble_eq_true rfl) hdep)) dX9_nameHere_10 (fun hT z hz => wX9_here (xnd F) (Nat.le_refl _) hT (a0 := a0) ha0 z hz) (fun v4 m3 => ?_)
    refine xj_callSI (As := [.int v4]) (d' := 0) F lmX9_136 rfl rfl (Nat.le_of_ble_eq_true rfl) (xfit (Nat.le_trans (Nat.le_of_ble_eq_true rfl) hdep)) dX9_nameHere_13 (fun hT z hz => wX9_isSmall (xnd F) (Nat.le_refl _) hT (a0 := v4)  z hz) (fun v6 m5 => ?_)
    refine xj_if_eq (tgt := 51) F dX9_nameHere_16 (by decide) ?_ ?_
    · exact jX9_nameHere_51 F hdep a0 m5 ha0
    · refine xj_aload_n F 0 dX9_nameHere_19 rfl ?_
      refine xj_aload_n F 0 dX9_nameHere_20 rfl ?_
      refine xj_get F ha0 lgX9_110 dX9_nameHere_21 (fun v7 => ?_)
      refine xj_iconst F 1 dX9_nameHere_24 (by decide) ?_
      refine xj_iadd F dX9_nameHere_25 (fun v8 => ?_)
      refine xj_callVI (b := a0) (As := [.int v8]) (d' := 0) F ha0 lmX9_113 rfl rfl (Nat.le_of_ble_eq_true rfl) (xfit (Nat.le_trans (Nat.le_of_ble_eq_true rfl) hdep)) dX9_nameHere_26 (fun hT z hz => wX9_byteAt (xnd F) (Nat.le_refl _) hT (a0 := a0) (a1 := v8) ha0 z hz) (fun v10 m9 => ?_)
      refine xj_callSI (As := [.int v10]) (d' := 0) F lmX9_136 rfl rfl (Nat.le_of_ble_eq_true rfl) (xfit (Nat.le_trans (Nat.le_of_ble_eq_true rfl) hdep)) dX9_nameHere_29 (fun hT z hz => wX9_isSmall (xnd F) (Nat.le_refl _) hT (a0 := v10)  z hz) (fun v12 m11 => ?_)
      refine xj_if_ne (tgt := 51) F dX9_nameHere_32 (by decide) ?_ ?_
      · exact jX9_nameHere_51 F hdep a0 m11 ha0
      · refine xj_aload_n F 0 dX9_nameHere_35 rfl ?_
        refine xj_aload_n F 0 dX9_nameHere_36 rfl ?_
        refine xj_get F ha0 lgX9_110 dX9_nameHere_37 (fun v13 => ?_)
        refine xj_iconst F 1 dX9_nameHere_40 (by decide) ?_
        refine xj_iadd F dX9_nameHere_41 (fun v14 => ?_)
        refine xj_callVI (b := a0) (As := [.int v14]) (d' := 0) F ha0 lmX9_113 rfl rfl (Nat.le_of_ble_eq_true rfl) (xfit (Nat.le_trans (Nat.le_of_ble_eq_true rfl) hdep)) dX9_nameHere_42 (fun hT z hz => wX9_byteAt (xnd F) (Nat.le_refl _) hT (a0 := a0) (a1 := v14) ha0 z hz) (fun v16 m15 => ?_)
        refine xj_callSI (As := [.int v16]) (d' := 0) F lmX9_159 rfl rfl (Nat.le_of_ble_eq_true rfl) (xfit (Nat.le_trans (Nat.le_of_ble_eq_true rfl) hdep)) dX9_nameHere_45 (fun hT z hz => wX9_isBig (xnd F) (Nat.le_refl _) hT (a0 := v16)  z hz) (fun v18 m17 => ?_)
        refine xj_if_eq (tgt := 65) F dX9_nameHere_48 (by decide) ?_ ?_
        · refine xj_aload_n F 0 dX9_nameHere_65 rfl ?_
          refine xj_dup F dX9_nameHere_66 rfl ?_
          refine xj_get F ha0 lgX9_110 dX9_nameHere_67 (fun v19 => ?_)
          refine xj_iconst F 1 dX9_nameHere_70 (by decide) ?_
          refine xj_iadd F dX9_nameHere_71 (fun v20 => ?_)
          refine xj_put F ha0 lpX9_110 dX9_nameHere_72 (fun m21 => ?_)
          refine xj_aload_n F 0 dX9_nameHere_75 rfl ?_
          refine xj_aload_n F 0 dX9_nameHere_76 rfl ?_
          refine xj_get F ha0 lgX9_110 dX9_nameHere_77 (fun v22 => ?_)
          refine xj_iconst F 1 dX9_nameHere_80 (by decide) ?_
          refine xj_isub F dX9_nameHere_81 (fun v23 => ?_)
          refine xj_callVI (b := a0) (As := [.int v23]) (d' := 0) F ha0 lmX9_113 rfl rfl (Nat.le_of_ble_eq_true rfl) (xfit (Nat.le_trans (Nat.le_of_ble_eq_true rfl) hdep)) dX9_nameHere_82 (fun hT z hz => wX9_byteAt (xnd F) (Nat.le_refl _) hT (a0 := a0) (a1 := v23) ha0 z hz) (fun v25 m24 => ?_)
          refine xj_bipush F 97 dX9_nameHere_85 (by decide) ?_
          refine xj_isub F dX9_nameHere_87 (fun v26 => ?_)
          exact xj_ret F rfl dX9_nameHere_88
        · exact jX9_nameHere_51 F hdep a0 m17 ha0
  · refine xj_iconst F 0 dX9_nameHere_7 (by decide) ?_
    exact xj_ret F rfl dX9_nameHere_8
set_option maxRecDepth 20000 in
set_option maxHeartbeats 4000000 in
theorem jX9_numberHere_104 {G : XG} {l : Launch} {d : Nat} {X : XX} (F : xF (xE G d) G X mX9_numberHere) (hdep : 2 ≤ d) : ∀ (q0 : Nat) (x2 : Int32) (m0 : XM), isa G q0 9 → xJ (xE G d) (xQ xrI G X mX9_numberHere) G l X mX9_numberHere 104 [(0, .ref (xad G q0)), (2, .int x2)] [] m0 (fX9_numberHere_104 (xln G) q0 x2 m0) := by
  intro q0 x2 m0 hq0
  unfold fX9_numberHere_104
  refine xj_aload_n F 0 dX9_numberHere_104 rfl ?_
  refine xj_callVI (b := q0) (As := []) (d' := 0) F hq0 lmX9_140 rfl rfl (Nat.le_of_ble_eq_true rfl) (xfit (Nat.le_trans (Nat.le_of_ble_eq_true rfl) hdep)) dX9_numberHere_105 (fun hT z hz => wX9_fine (xnd F) (Nat.le_refl _) hT (a0 := q0) hq0 z hz) (fun v2 m1 => ?_)
  refine xj_if_eq (tgt := 115) F dX9_numberHere_108 (by decide) ?_ ?_
  · refine xj_iconst F 0 dX9_numberHere_115 (by decide) ?_
    exact xj_ret F rfl dX9_numberHere_116
  · refine xj_iload_n F 1 dX9_numberHere_111 rfl ?_
    refine xj_goto (tgt := 116) F dX9_numberHere_112 (by decide) ?_
    exact xj_ret F rfl dX9_numberHere_116
set_option maxRecDepth 20000 in
set_option maxHeartbeats 4000000 in
theorem jX9_numberHere_40 {G : XG} {l : Launch} {d : Nat} {X : XX} (F : xF (xE G d) G X mX9_numberHere) (hdep : 2 ≤ d) : ∀ (n : Nat) (q0 : Nat) (x1 : Int32) (x2 : Int32) (m0 : XM), isa G q0 9 → xJ (xE G d) (xQ xrI G X mX9_numberHere) G l X mX9_numberHere 40 [(0, .ref (xad G q0)), (1, .int x1), (2, .int x2)] [] m0 (fX9_numberHere_40 (xln G) n q0 x1 x2 m0) := by
  intro n
  induction n with
  | zero => intro q0 x1 x2 m0 hq0; exact xj_none
  | succ n hr40 =>
    intro q0 x1 x2 m0 hq0
    unfold fX9_numberHere_40
    generalize hrg40 : (fun q0 x1 x2 m0 => fX9_numberHere_40 (xln G) n q0 x1 x2 m0) = r40
    have hr40 : ∀ (q0 : Nat) (x1 : Int32) (x2 : Int32) (m0 : XM), isa G q0 9 → xJ (xE G d) (xQ xrI G X mX9_numberHere) G l X mX9_numberHere 40 [(0, .ref (xad G q0)), (1, .int x1), (2, .int x2)] [] m0 (r40 q0 x1 x2 m0) := by
      subst hrg40
      exact hr40
    clear hrg40
    refine xj_eq (xv_eq _ _) ?_
    refine xj_aload_n F 0 dX9_numberHere_40 rfl ?_
    refine xj_aload_n F 0 dX9_numberHere_41 rfl ?_
    refine xj_get F hq0 lgX9_110 dX9_numberHere_42 (fun v1 => ?_)
    refine xj_callVI (b := q0) (As := [.int v1]) (d' := 0) F hq0 lmX9_113 rfl rfl (Nat.le_of_ble_eq_true rfl) (xfit (Nat.le_trans (Nat.le_of_ble_eq_true rfl) hdep)) dX9_numberHere_45 (fun hT z hz => wX9_byteAt (xnd F) (Nat.le_refl _) hT (a0 := q0) (a1 := v1) hq0 z hz) (fun v3 m2 => ?_)
    refine xj_callSI (As := [.int v3]) (d' := 0) F lmX9_168 rfl rfl (Nat.le_of_ble_eq_true rfl) (xfit (Nat.le_trans (Nat.le_of_ble_eq_true rfl) hdep)) dX9_numberHere_48 (fun hT z hz => wX9_isDigit (xnd F) (Nat.le_refl _) hT (a0 := v3)  z hz) (fun v5 m4 => ?_)
    refine xj_if_eq (tgt := 90) F dX9_numberHere_51 (by decide) ?_ ?_
    · refine xj_iload_n F 2 dX9_numberHere_90 rfl ?_
      refine xj_sipush F 999 dX9_numberHere_91 (by decide) ?_
      refine xj_icmp_le (tgt := 104) F dX9_numberHere_94 (by decide) ?_ ?_
      · refine xj_sub (lv' := [(0, .ref (xad G q0)), (2, .int x2)]) [0, 2] rfl ?_
        exact jX9_numberHere_104 F hdep q0 x2 m4 hq0
      · refine xj_aload_n F 0 dX9_numberHere_97 rfl ?_
        refine xj_iconst F 2 dX9_numberHere_98 (by decide) ?_
        refine xj_iload_n F 1 dX9_numberHere_99 rfl ?_
        refine xj_callVI (b := q0) (As := [.int 2, .int x1]) (d' := 0) F hq0 lmX9_151 rfl rfl (Nat.le_of_ble_eq_true rfl) (xfit (Nat.le_trans (Nat.le_of_ble_eq_true rfl) hdep)) dX9_numberHere_100 (fun hT z hz => wX9_wrong (xnd F) (Nat.le_refl _) hT (a0 := q0) (a1 := 2) (a2 := x1) hq0 z hz) (fun v7 m6 => ?_)
        refine xj_pop F dX9_numberHere_103 rfl ?_
        refine xj_sub (lv' := [(0, .ref (xad G q0)), (2, .int x2)]) [0, 2] rfl ?_
        exact jX9_numberHere_104 F hdep q0 x2 m6 hq0
    · refine xj_sipush F 1000 dX9_numberHere_54 (by decide) ?_
      refine xj_bipush F 10 dX9_numberHere_57 (by decide) ?_
      refine xj_iload_n F 2 dX9_numberHere_59 rfl ?_
      refine xj_imul F dX9_numberHere_60 (fun v8 => ?_)
      refine xj_aload_n F 0 dX9_numberHere_61 rfl ?_
      refine xj_aload_n F 0 dX9_numberHere_62 rfl ?_
      refine xj_get F hq0 lgX9_110 dX9_numberHere_63 (fun v9 => ?_)
      refine xj_callVI (b := q0) (As := [.int v9]) (d' := 0) F hq0 lmX9_113 rfl rfl (Nat.le_of_ble_eq_true rfl) (xfit (Nat.le_trans (Nat.le_of_ble_eq_true rfl) hdep)) dX9_numberHere_66 (fun hT z hz => wX9_byteAt (xnd F) (Nat.le_refl _) hT (a0 := q0) (a1 := v9) hq0 z hz) (fun v11 m10 => ?_)
      refine xj_iadd F dX9_numberHere_69 (fun v12 => ?_)
      refine xj_bipush F 48 dX9_numberHere_70 (by decide) ?_
      refine xj_isub F dX9_numberHere_72 (fun v13 => ?_)
      refine xj_callSI (As := [.int 1000, .int v13]) (d' := 0) F lmX9_171 rfl rfl (Nat.le_of_ble_eq_true rfl) (xfit (Nat.le_trans (Nat.le_of_ble_eq_true rfl) hdep)) dX9_numberHere_73 (fun hT z hz => wX9_less (xnd F) (Nat.le_refl _) hT (a0 := 1000) (a1 := v13)  z hz) (fun v15 m14 => ?_)
      refine xj_istore_n (lv' := [(2, .int v15), (0, .ref (xad G q0)), (1, .int x1)]) F dX9_numberHere_76 (by decide) rfl ?_
      refine xj_aload_n F 1 dX9_numberHere_77 rfl ?_
      refine xj_dup F dX9_numberHere_78 rfl ?_
      refine xj_get F hq0 lgX9_110 dX9_numberHere_79 (fun v16 => ?_)
      refine xj_iconst F 1 dX9_numberHere_82 (by decide) ?_
      refine xj_iadd F dX9_numberHere_83 (fun v17 => ?_)
      refine xj_put F hq0 lpX9_110 dX9_numberHere_84 (fun m18 => ?_)
      refine xj_goto (tgt := 40) F dX9_numberHere_87 (by decide) ?_
      refine xj_sub (lv' := [(0, .ref (xad G q0)), (1, .int x1), (2, .int v15)]) [1, 2, 0] rfl ?_
      exact hr40 q0 x1 v15 m18 hq0
set_option maxRecDepth 20000 in
set_option maxHeartbeats 4000000 in
theorem wX9_numberHere {G : XG} {l : Launch} {d : Nat} (hn : xN G) (hdep : 2 ≤ d) {m0 : XM} (hT : xT G m0) {a0 : Nat} (ha0 : isa G a0 9) : ∀ z, fX9_numberHere (xln G) a0 m0 = some z → xMet G l mX9_numberHere d [.ref (xad G a0)] m0 (xrI z) := by
  refine xMet_of (by decide +kernel) hn hT (Nat.le_of_ble_eq_true rfl) (fun X F => ?_)
  refine xj_sub (lv' := [(0, .ref (xad G a0))]) [0] rfl ?_
  unfold fX9_numberHere
  refine xj_aload_n F 0 dX9_numberHere_0 rfl ?_
  refine xj_callVI (b := a0) (As := []) (d' := 0) F ha0 lmX9_140 rfl rfl (Nat.le_of_ble_eq_true rfl) (xfit (Nat.le_trans (Nat.le_of_ble_eq_true rfl) hdep)) dX9_numberHere_1 (fun hT z hz => wX9_fine (xnd F) (Nat.le_refl _) hT (a0 := a0) ha0 z hz) (fun v2 m1 => ?_)
  refine xj_if_ne (tgt := 9) F dX9_numberHere_4 (by decide) ?_ ?_
  · refine xj_aload_n F 0 dX9_numberHere_9 rfl ?_
    refine xj_callVI (b := a0) (As := []) (d' := 1) F ha0 lmX9_123 rfl rfl (Nat.le_of_ble_eq_true rfl) (xfit (Nat.le_trans (Nat.le_of_ble_eq_true rfl) hdep)) dX9_numberHere_10 (fun hT z hz => wX9_here (xnd F) (Nat.le_refl _) hT (a0 := a0) ha0 z hz) (fun v4 m3 => ?_)
    refine xj_callSI (As := [.int v4]) (d' := 0) F lmX9_168 rfl rfl (Nat.le_of_ble_eq_true rfl) (xfit (Nat.le_trans (Nat.le_of_ble_eq_true rfl) hdep)) dX9_numberHere_13 (fun hT z hz => wX9_isDigit (xnd F) (Nat.le_refl _) hT (a0 := v4)  z hz) (fun v6 m5 => ?_)
    refine xj_if_ne (tgt := 33) F dX9_numberHere_16 (by decide) ?_ ?_
    · refine xj_aload_n F 0 dX9_numberHere_33 rfl ?_
      refine xj_get F ha0 lgX9_110 dX9_numberHere_34 (fun v7 => ?_)
      refine xj_istore_n (lv' := [(1, .int v7), (0, .ref (xad G a0))]) F dX9_numberHere_37 (by decide) rfl ?_
      refine xj_iconst F 0 dX9_numberHere_38 (by decide) ?_
      refine xj_istore_n (lv' := [(2, .int 0), (1, .int v7), (0, .ref (xad G a0))]) F dX9_numberHere_39 (by decide) rfl ?_
      refine xj_sub (lv' := [(0, .ref (xad G a0)), (1, .int v7), (2, .int 0)]) [2, 1, 0] rfl ?_
      exact jX9_numberHere_40 F hdep XF a0 v7 0 m5 ha0
    · refine xj_iconst F 0 dX9_numberHere_19 (by decide) ?_
      refine xj_aload_n F 0 dX9_numberHere_20 rfl ?_
      refine xj_iconst F 1 dX9_numberHere_21 (by decide) ?_
      refine xj_aload_n F 0 dX9_numberHere_22 rfl ?_
      refine xj_get F ha0 lgX9_110 dX9_numberHere_23 (fun v8 => ?_)
      refine xj_callVI (b := a0) (As := [.int 1, .int v8]) (d' := 0) F ha0 lmX9_151 rfl rfl (Nat.le_of_ble_eq_true rfl) (xfit (Nat.le_trans (Nat.le_of_ble_eq_true rfl) hdep)) dX9_numberHere_26 (fun hT z hz => wX9_wrong (xnd F) (Nat.le_refl _) hT (a0 := a0) (a1 := 1) (a2 := v8) ha0 z hz) (fun v10 m9 => ?_)
      refine xj_callSI (As := [.int 0, .int v10]) (d' := 0) F lmX9_165 rfl rfl (Nat.le_of_ble_eq_true rfl) (xfit (Nat.le_trans (Nat.le_of_ble_eq_true rfl) hdep)) dX9_numberHere_29 (fun hT z hz => wX9_more (xnd F) (Nat.le_refl _) hT (a0 := 0) (a1 := v10)  z hz) (fun v12 m11 => ?_)
      exact xj_ret F rfl dX9_numberHere_32
  · refine xj_iconst F 0 dX9_numberHere_7 (by decide) ?_
    exact xj_ret F rfl dX9_numberHere_8
set_option maxRecDepth 20000 in
set_option maxHeartbeats 4000000 in
theorem wX9_adds {G : XG} {l : Launch} {d : Nat} (hn : xN G) (hdep : 0 ≤ d) {m0 : XM} (hT : xT G m0) {a0 : Nat} {a1 : Int32} {a2 : Int32} {a3 : Int32} {a4 : Int32} {a5 : Int32} (ha0 : isa G a0 9) : ∀ z, fX9_adds (xln G) a0 a1 a2 a3 a4 a5 m0 = some z → xMet G l mX9_adds d [.ref (xad G a0), .int a1, .int a2, .int a3, .int a4, .int a5] m0 (xrI z) := by
  refine xMet_of (by decide +kernel) hn hT (Nat.le_of_ble_eq_true rfl) (fun X F => ?_)
  refine xj_sub (lv' := [(0, .ref (xad G a0)), (1, .int a1), (2, .int a2), (3, .int a3), (4, .int a4), (5, .int a5)]) [0, 1, 2, 3, 4, 5] rfl ?_
  unfold fX9_adds
  refine xj_sipush F 1410 dX9_adds_0 (by decide) ?_
  refine xj_bipush F 6 dX9_adds_3 (by decide) ?_
  refine xj_aload_n F 0 dX9_adds_5 rfl ?_
  refine xj_getR F ha0 lgX9_23 dX9_adds_6 (fun u1 hu1 => ?_)
  refine xj_iconst F 3 dX9_adds_9 (by decide) ?_
  refine xj_iald F hu1 dX9_adds_10 (fun v2 => ?_)
  refine xj_imul F dX9_adds_11 (fun v3 => ?_)
  refine xj_iadd F dX9_adds_12 (fun v4 => ?_)
  refine xj_istore (lv' := [(6, .int v4), (0, .ref (xad G a0)), (1, .int a1), (2, .int a2), (3, .int a3), (4, .int a4), (5, .int a5)]) F dX9_adds_13 (by decide) rfl ?_
  refine xj_aload_n F 1 dX9_adds_15 rfl ?_
  refine xj_getR F ha0 lgX9_23 dX9_adds_16 (fun u5 hu5 => ?_)
  refine xj_iload F 0 dX9_adds_19 rfl ?_
  refine xj_iload_n F 2 dX9_adds_21 rfl ?_
  refine xj_iast F hu5 dX9_adds_22 (fun m6 => ?_)
  refine xj_aload_n F 1 dX9_adds_23 rfl ?_
  refine xj_getR F ha0 lgX9_23 dX9_adds_24 (fun u7 hu7 => ?_)
  refine xj_iload F 0 dX9_adds_27 rfl ?_
  refine xj_iconst F 1 dX9_adds_29 (by decide) ?_
  refine xj_iadd F dX9_adds_30 (fun v8 => ?_)
  refine xj_iload_n F 3 dX9_adds_31 rfl ?_
  refine xj_iast F hu7 dX9_adds_32 (fun m9 => ?_)
  refine xj_aload_n F 1 dX9_adds_33 rfl ?_
  refine xj_getR F ha0 lgX9_23 dX9_adds_34 (fun u10 hu10 => ?_)
  refine xj_iload F 0 dX9_adds_37 rfl ?_
  refine xj_iconst F 2 dX9_adds_39 (by decide) ?_
  refine xj_iadd F dX9_adds_40 (fun v11 => ?_)
  refine xj_iload_n F 4 dX9_adds_41 rfl ?_
  refine xj_iast F hu10 dX9_adds_42 (fun m12 => ?_)
  refine xj_aload_n F 1 dX9_adds_43 rfl ?_
  refine xj_getR F ha0 lgX9_23 dX9_adds_44 (fun u13 hu13 => ?_)
  refine xj_iload F 0 dX9_adds_47 rfl ?_
  refine xj_iconst F 3 dX9_adds_49 (by decide) ?_
  refine xj_iadd F dX9_adds_50 (fun v14 => ?_)
  refine xj_iload F 5 dX9_adds_51 rfl ?_
  refine xj_iast F hu13 dX9_adds_53 (fun m15 => ?_)
  refine xj_aload_n F 1 dX9_adds_54 rfl ?_
  refine xj_getR F ha0 lgX9_23 dX9_adds_55 (fun u16 hu16 => ?_)
  refine xj_iload F 0 dX9_adds_58 rfl ?_
  refine xj_iconst F 4 dX9_adds_60 (by decide) ?_
  refine xj_iadd F dX9_adds_61 (fun v17 => ?_)
  refine xj_iconst F (-1) dX9_adds_62 (by decide) ?_
  refine xj_iast F hu16 dX9_adds_63 (fun m18 => ?_)
  refine xj_aload_n F 1 dX9_adds_64 rfl ?_
  refine xj_getR F ha0 lgX9_23 dX9_adds_65 (fun u19 hu19 => ?_)
  refine xj_iload F 0 dX9_adds_68 rfl ?_
  refine xj_iconst F 5 dX9_adds_70 (by decide) ?_
  refine xj_iadd F dX9_adds_71 (fun v20 => ?_)
  refine xj_iload F 6 dX9_adds_72 rfl ?_
  refine xj_iast F hu19 dX9_adds_74 (fun m21 => ?_)
  refine xj_aload_n F 1 dX9_adds_75 rfl ?_
  refine xj_getR F ha0 lgX9_23 dX9_adds_76 (fun u22 hu22 => ?_)
  refine xj_iconst F 3 dX9_adds_79 (by decide) ?_
  refine xj_dup2 F dX9_adds_80 rfl rfl ?_
  refine xj_iald F hu22 dX9_adds_81 (fun v23 => ?_)
  refine xj_iconst F 1 dX9_adds_82 (by decide) ?_
  refine xj_iadd F dX9_adds_83 (fun v24 => ?_)
  refine xj_iast F hu22 dX9_adds_84 (fun m25 => ?_)
  refine xj_aload_n F 1 dX9_adds_85 rfl ?_
  refine xj_getR F ha0 lgX9_23 dX9_adds_86 (fun u26 hu26 => ?_)
  refine xj_iconst F 3 dX9_adds_89 (by decide) ?_
  refine xj_iald F hu26 dX9_adds_90 (fun v27 => ?_)
  refine xj_iconst F 1 dX9_adds_91 (by decide) ?_
  refine xj_isub F dX9_adds_92 (fun v28 => ?_)
  exact xj_ret F rfl dX9_adds_93
set_option maxRecDepth 20000 in
set_option maxHeartbeats 4000000 in
theorem jX9_canBeTerm_38 {G : XG} {l : Launch} {d : Nat} {X : XX} (F : xF (xE G d) G X mX9_canBeTerm) (hdep : 5 ≤ d) : ∀ (m0 : XM), xJ (xE G d) (xQ xrI G X mX9_canBeTerm) G l X mX9_canBeTerm 38 [] [] m0 (fX9_canBeTerm_38 (xln G)  m0) := by
  intro m0
  unfold fX9_canBeTerm_38
  refine xj_iconst F 1 dX9_canBeTerm_38 (by decide) ?_
  refine xj_goto (tgt := 43) F dX9_canBeTerm_39 (by decide) ?_
  exact xj_retZ F rfl rfl dX9_canBeTerm_43
set_option maxRecDepth 20000 in
set_option maxHeartbeats 4000000 in
theorem wX9_canBeTerm {G : XG} {l : Launch} {d : Nat} (hn : xN G) (hdep : 5 ≤ d) {m0 : XM} (hT : xT G m0) {a0 : Nat} (ha0 : isa G a0 9) : ∀ z, fX9_canBeTerm (xln G) a0 m0 = some z → xMet G l mX9_canBeTerm d [.ref (xad G a0)] m0 (xrI z) := by
  refine xMet_of (by decide +kernel) hn hT (Nat.le_of_ble_eq_true rfl) (fun X F => ?_)
  refine xj_sub (lv' := [(0, .ref (xad G a0))]) [0] rfl ?_
  unfold fX9_canBeTerm
  refine xj_aload_n F 0 dX9_canBeTerm_0 rfl ?_
  refine xj_callVI (b := a0) (As := []) (d' := 1) F ha0 lmX9_123 rfl rfl (Nat.le_of_ble_eq_true rfl) (xfit (Nat.le_trans (Nat.le_of_ble_eq_true rfl) hdep)) dX9_canBeTerm_1 (fun hT z hz => wX9_here (xnd F) (Nat.le_refl _) hT (a0 := a0) ha0 z hz) (fun v2 m1 => ?_)
  refine xj_callSI (As := [.int v2]) (d' := 0) F lmX9_168 rfl rfl (Nat.le_of_ble_eq_true rfl) (xfit (Nat.le_trans (Nat.le_of_ble_eq_true rfl) hdep)) dX9_canBeTerm_4 (fun hT z hz => wX9_isDigit (xnd F) (Nat.le_refl _) hT (a0 := v2)  z hz) (fun v4 m3 => ?_)
  refine xj_if_ne (tgt := 38) F dX9_canBeTerm_7 (by decide) ?_ ?_
  · refine xj_sub (lv' := []) [] rfl ?_
    exact jX9_canBeTerm_38 F hdep m3
  · refine xj_aload_n F 0 dX9_canBeTerm_10 rfl ?_
    refine xj_callVI (b := a0) (As := []) (d' := 1) F ha0 lmX9_123 rfl rfl (Nat.le_of_ble_eq_true rfl) (xfit (Nat.le_trans (Nat.le_of_ble_eq_true rfl) hdep)) dX9_canBeTerm_11 (fun hT z hz => wX9_here (xnd F) (Nat.le_refl _) hT (a0 := a0) ha0 z hz) (fun v6 m5 => ?_)
    refine xj_callSI (As := [.int v6]) (d' := 0) F lmX9_159 rfl rfl (Nat.le_of_ble_eq_true rfl) (xfit (Nat.le_trans (Nat.le_of_ble_eq_true rfl) hdep)) dX9_canBeTerm_14 (fun hT z hz => wX9_isBig (xnd F) (Nat.le_refl _) hT (a0 := v6)  z hz) (fun v8 m7 => ?_)
    refine xj_if_ne (tgt := 38) F dX9_canBeTerm_17 (by decide) ?_ ?_
    · refine xj_sub (lv' := []) [] rfl ?_
      exact jX9_canBeTerm_38 F hdep m7
    · refine xj_aload_n F 0 dX9_canBeTerm_20 rfl ?_
      refine xj_callVI (b := a0) (As := []) (d' := 1) F ha0 lmX9_123 rfl rfl (Nat.le_of_ble_eq_true rfl) (xfit (Nat.le_trans (Nat.le_of_ble_eq_true rfl) hdep)) dX9_canBeTerm_21 (fun hT z hz => wX9_here (xnd F) (Nat.le_refl _) hT (a0 := a0) ha0 z hz) (fun v10 m9 => ?_)
      refine xj_bipush F 40 dX9_canBeTerm_24 (by decide) ?_
      refine xj_icmp_eq (tgt := 38) F dX9_canBeTerm_26 (by decide) ?_ ?_
      · refine xj_sub (lv' := []) [] rfl ?_
        exact jX9_canBeTerm_38 F hdep m9
      · refine xj_aload_n F 0 dX9_canBeTerm_29 rfl ?_
        refine xj_ldcS (i := 15) F (List.mem_of_getElem? (i := 15) rfl) dX9_canBeTerm_30 ?_
        refine xj_callVI (b := a0) (As := [.ref (G.1.2.1 15)]) (d' := 4) F ha0 lmX9_144 rfl rfl (Nat.le_of_ble_eq_true rfl) (xfit (Nat.le_trans (Nat.le_of_ble_eq_true rfl) hdep)) dX9_canBeTerm_32 (fun hT z hz => wX9_isWord (xnd F) (Nat.le_refl _) hT (a0 := a0) (a1 := 15) ha0 (by decide) z hz) (fun v12 m11 => ?_)
        refine xj_if_eq (tgt := 42) F dX9_canBeTerm_35 (by decide) ?_ ?_
        · refine xj_iconst F 0 dX9_canBeTerm_42 (by decide) ?_
          exact xj_retZ F rfl rfl dX9_canBeTerm_43
        · refine xj_sub (lv' := []) [] rfl ?_
          exact jX9_canBeTerm_38 F hdep m11
set_option maxRecDepth 20000 in
set_option maxHeartbeats 4000000 in
theorem jX9_term_43 {G : XG} {l : Launch} {d : Nat} {X : XX} (F : xF (xE G d) G X mX9_term) (hdep : 6 ≤ d) {e : Nat} {R : Nat → Nat → Int32 → XM → Option (Int32 × XM)} (hge : e + 5 + 1 ≤ d) (hR1 : ∀ {m0 : XM}, xT G m0 → ∀ {q : Nat}, isa G q 9 → ∀ (x0 : Int32) (z : Int32 × XM), R 1 q x0 m0 = some z → xMet G l mX9_sumOn (e + 5) [.ref (xad G q)] m0 (xrI z)) : ∀ (q0 : Nat) (x2 : Int32) (m0 : XM), isa G q0 9 → xJ (xE G d) (xQ xrI G X mX9_term) G l X mX9_term 43 [(0, .ref (xad G q0)), (2, .int x2)] [] m0 (fX9_term_43 (xln G) R q0 x2 m0) := by
  intro q0 x2 m0 hq0
  unfold fX9_term_43
  refine xj_aload_n F 0 dX9_term_43 rfl ?_
  refine xj_iconst F 1 dX9_term_44 (by decide) ?_
  refine xj_iload_n F 1 dX9_term_45 rfl ?_
  refine xj_callVI (b := q0) (As := [.int 1, .int x2]) (d' := 0) F hq0 lmX9_151 rfl rfl (Nat.le_of_ble_eq_true rfl) (xfit (Nat.le_trans (Nat.le_of_ble_eq_true rfl) hdep)) dX9_term_46 (fun hT z hz => wX9_wrong (xnd F) (Nat.le_refl _) hT (a0 := q0) (a1 := 1) (a2 := x2) hq0 z hz) (fun v2 m1 => ?_)
  exact xj_ret F rfl dX9_term_49
set_option maxRecDepth 20000 in
set_option maxHeartbeats 4000000 in
theorem jX9_term_77 {G : XG} {l : Launch} {d : Nat} {X : XX} (F : xF (xE G d) G X mX9_term) (hdep : 6 ≤ d) {e : Nat} {R : Nat → Nat → Int32 → XM → Option (Int32 × XM)} (hge : e + 5 + 1 ≤ d) (hR1 : ∀ {m0 : XM}, xT G m0 → ∀ {q : Nat}, isa G q 9 → ∀ (x0 : Int32) (z : Int32 × XM), R 1 q x0 m0 = some z → xMet G l mX9_sumOn (e + 5) [.ref (xad G q)] m0 (xrI z)) : ∀ (q0 : Nat) (x2 : Int32) (s0 : Int32) (m0 : XM), isa G q0 9 → xJ (xE G d) (xQ xrI G X mX9_term) G l X mX9_term 77 [(0, .ref (xad G q0)), (2, .int x2)] [.int s0] m0 (fX9_term_77 (xln G) R q0 x2 s0 m0) := by
  intro q0 x2 s0 m0 hq0
  unfold fX9_term_77
  refine xj_istore_n (lv' := [(3, .int s0), (0, .ref (xad G q0)), (2, .int x2)]) F dX9_term_77 (by decide) rfl ?_
  refine xj_aload_n F 1 dX9_term_78 rfl ?_
  refine xj_iconst F 3 dX9_term_79 (by decide) ?_
  refine xj_iload_n F 2 dX9_term_80 rfl ?_
  refine xj_callVI (b := q0) (As := [.int 3, .int x2]) (d' := 0) F hq0 lmX9_151 rfl rfl (Nat.le_of_ble_eq_true rfl) (xfit (Nat.le_trans (Nat.le_of_ble_eq_true rfl) hdep)) dX9_term_81 (fun hT z hz => wX9_wrong (xnd F) (Nat.le_refl _) hT (a0 := q0) (a1 := 3) (a2 := x2) hq0 z hz) (fun v2 m1 => ?_)
  exact xj_ret F rfl dX9_term_84
set_option maxRecDepth 20000 in
set_option maxHeartbeats 4000000 in
theorem jX9_term_242 {G : XG} {l : Launch} {d : Nat} {X : XX} (F : xF (xE G d) G X mX9_term) (hdep : 6 ≤ d) {e : Nat} {R : Nat → Nat → Int32 → XM → Option (Int32 × XM)} (hge : e + 5 + 1 ≤ d) (hR1 : ∀ {m0 : XM}, xT G m0 → ∀ {q : Nat}, isa G q 9 → ∀ (x0 : Int32) (z : Int32 × XM), R 1 q x0 m0 = some z → xMet G l mX9_sumOn (e + 5) [.ref (xad G q)] m0 (xrI z)) : ∀ (x2 : Int32) (x3 : Int32) (x4 : Int32) (p0 : Nat) (s1 : Int32) (s2 : Int32) (m0 : XM), isa G p0 9 → xJ (xE G d) (xQ xrI G X mX9_term) G l X mX9_term 242 [(2, .int x2), (3, .int x3), (4, .int x4)] [.int s2, .int s1, .ref (xad G p0)] m0 (fX9_term_242 (xln G) R x2 x3 x4 p0 s1 s2 m0) := by
  intro x2 x3 x4 p0 s1 s2 m0 hp0
  unfold fX9_term_242
  refine xj_iload_n F 1 dX9_term_242 rfl ?_
  refine xj_iload F 2 dX9_term_243 rfl ?_
  refine xj_iload_n F 0 dX9_term_245 rfl ?_
  refine xj_callVI (b := p0) (As := [.int s1, .int s2, .int x3, .int x4, .int x2]) (d' := 0) F hp0 lmX9_185 rfl rfl (Nat.le_of_ble_eq_true rfl) (xfit (Nat.le_trans (Nat.le_of_ble_eq_true rfl) hdep)) dX9_term_246 (fun hT z hz => wX9_adds (xnd F) (Nat.le_refl _) hT (a0 := p0) (a1 := s1) (a2 := s2) (a3 := x3) (a4 := x4) (a5 := x2) hp0 z hz) (fun v2 m1 => ?_)
  refine xj_goto (tgt := 253) F dX9_term_249 (by decide) ?_
  exact xj_ret F rfl dX9_term_253
set_option maxRecDepth 20000 in
set_option maxHeartbeats 4000000 in
theorem jX9_term_223 {G : XG} {l : Launch} {d : Nat} {X : XX} (F : xF (xE G d) G X mX9_term) (hdep : 6 ≤ d) {e : Nat} {R : Nat → Nat → Int32 → XM → Option (Int32 × XM)} (hge : e + 5 + 1 ≤ d) (hR1 : ∀ {m0 : XM}, xT G m0 → ∀ {q : Nat}, isa G q 9 → ∀ (x0 : Int32) (z : Int32 × XM), R 1 q x0 m0 = some z → xMet G l mX9_sumOn (e + 5) [.ref (xad G q)] m0 (xrI z)) : ∀ (q0 : Nat) (x1 : Int32) (x2 : Int32) (x3 : Int32) (x4 : Int32) (x5 : Int32) (m0 : XM), isa G q0 9 → xJ (xE G d) (xQ xrI G X mX9_term) G l X mX9_term 223 [(0, .ref (xad G q0)), (1, .int x1), (2, .int x2), (3, .int x3), (4, .int x4), (5, .int x5)] [] m0 (fX9_term_223 (xln G) R q0 x1 x2 x3 x4 x5 m0) := by
  intro q0 x1 x2 x3 x4 x5 m0 hq0
  unfold fX9_term_223
  refine xj_aload_n F 0 dX9_term_223 rfl ?_
  refine xj_callVI (b := q0) (As := []) (d' := 0) F hq0 lmX9_140 rfl rfl (Nat.le_of_ble_eq_true rfl) (xfit (Nat.le_trans (Nat.le_of_ble_eq_true rfl) hdep)) dX9_term_224 (fun hT z hz => wX9_fine (xnd F) (Nat.le_refl _) hT (a0 := q0) hq0 z hz) (fun v2 m1 => ?_)
  refine xj_if_eq (tgt := 252) F dX9_term_227 (by decide) ?_ ?_
  · refine xj_iconst F (-1) dX9_term_252 (by decide) ?_
    exact xj_ret F rfl dX9_term_253
  · refine xj_aload_n F 0 dX9_term_230 rfl ?_
    refine xj_iload_n F 1 dX9_term_231 rfl ?_
    refine xj_iload F 5 dX9_term_232 rfl ?_
    refine xj_if_eq (tgt := 241) F dX9_term_234 (by decide) ?_ ?_
    · refine xj_iconst F 1 dX9_term_241 (by decide) ?_
      refine xj_sub (lv' := [(2, .int x2), (3, .int x3), (4, .int x4)]) [2, 3, 4] rfl ?_
      exact jX9_term_242 F hdep hge hR1 x2 x3 x4 q0 x1 1 m1 hq0
    · refine xj_iconst F 2 dX9_term_237 (by decide) ?_
      refine xj_goto (tgt := 242) F dX9_term_238 (by decide) ?_
      refine xj_sub (lv' := [(2, .int x2), (3, .int x3), (4, .int x4)]) [2, 3, 4] rfl ?_
      exact jX9_term_242 F hdep hge hR1 x2 x3 x4 q0 x1 2 m1 hq0
set_option maxRecDepth 20000 in
set_option maxHeartbeats 4000000 in
theorem jX9_term_50 {G : XG} {l : Launch} {d : Nat} {X : XX} (F : xF (xE G d) G X mX9_term) (hdep : 6 ≤ d) {e : Nat} {R : Nat → Nat → Int32 → XM → Option (Int32 × XM)} (hge : e + 5 + 1 ≤ d) (hR1 : ∀ {m0 : XM}, xT G m0 → ∀ {q : Nat}, isa G q 9 → ∀ (x0 : Int32) (z : Int32 × XM), R 1 q x0 m0 = some z → xMet G l mX9_sumOn (e + 5) [.ref (xad G q)] m0 (xrI z)) : ∀ (q0 : Nat) (x1 : Int32) (x2 : Int32) (m0 : XM), isa G q0 9 → xJ (xE G d) (xQ xrI G X mX9_term) G l X mX9_term 50 [(0, .ref (xad G q0)), (1, .int x1), (2, .int x2)] [] m0 (fX9_term_50 (xln G) R q0 x1 x2 m0) := by
  intro q0 x1 x2 m0 hq0
  unfold fX9_term_50
  refine xj_aload_n F 0 dX9_term_50 rfl ?_
  refine xj_get F hq0 lgX9_179 dX9_term_51 (fun v1 => ?_)
  refine xj_bipush F 8 dX9_term_54 (by decide) ?_
  refine xj_icmp_ne (tgt := 85) F dX9_term_56 (by decide) ?_ ?_
  · refine xj_aload_n F 0 dX9_term_85 rfl ?_
    refine xj_dup F dX9_term_86 rfl ?_
    refine xj_get F hq0 lgX9_179 dX9_term_87 (fun v2 => ?_)
    refine xj_iconst F 1 dX9_term_90 (by decide) ?_
    refine xj_iadd F dX9_term_91 (fun v3 => ?_)
    refine xj_put F hq0 lpX9_179 dX9_term_92 (fun m4 => ?_)
    refine xj_aload_n F 0 dX9_term_95 rfl ?_
    refine xj_callVI (b := q0) (As := []) (d' := 1) F hq0 lmX9_123 rfl rfl (Nat.le_of_ble_eq_true rfl) (xfit (Nat.le_trans (Nat.le_of_ble_eq_true rfl) hdep)) dX9_term_96 (fun hT z hz => wX9_here (xnd F) (Nat.le_refl _) hT (a0 := q0) hq0 z hz) (fun v6 m5 => ?_)
    refine xj_callSI (As := [.int v6]) (d' := 0) F lmX9_168 rfl rfl (Nat.le_of_ble_eq_true rfl) (xfit (Nat.le_trans (Nat.le_of_ble_eq_true rfl) hdep)) dX9_term_99 (fun hT z hz => wX9_isDigit (xnd F) (Nat.le_refl _) hT (a0 := v6)  z hz) (fun v8 m7 => ?_)
    refine xj_if_eq (tgt := 118) F dX9_term_102 (by decide) ?_ ?_
    · refine xj_aload_n F 0 dX9_term_118 rfl ?_
      refine xj_ldcS (i := 15) F (List.mem_of_getElem? (i := 15) rfl) dX9_term_119 ?_
      refine xj_callVI (b := q0) (As := [.ref (G.1.2.1 15)]) (d' := 5) F hq0 lmX9_189 rfl rfl (Nat.le_of_ble_eq_true rfl) (xfit (Nat.le_trans (Nat.le_of_ble_eq_true rfl) hdep)) dX9_term_121 (fun hT z hz => wX9_takesWord (xnd F) (Nat.le_refl _) hT (a0 := q0) (a1 := 15) hq0 (by decide) z hz) (fun v10 m9 => ?_)
      refine xj_if_eq (tgt := 137) F dX9_term_124 (by decide) ?_ ?_
      · refine xj_aload_n F 0 dX9_term_137 rfl ?_
        refine xj_bipush F 40 dX9_term_138 (by decide) ?_
        refine xj_callVI (b := q0) (As := [.int 40]) (d' := 2) F hq0 lmX9_148 rfl rfl (Nat.le_of_ble_eq_true rfl) (xfit (Nat.le_trans (Nat.le_of_ble_eq_true rfl) hdep)) dX9_term_140 (fun hT z hz => wX9_takesSign (xnd F) (Nat.le_refl _) hT (a0 := q0) (a1 := 40) hq0 z hz) (fun v12 m11 => ?_)
        refine xj_if_eq (tgt := 187) F dX9_term_143 (by decide) ?_ ?_
        · refine xj_aload_n F 0 dX9_term_187 rfl ?_
          refine xj_callVI (b := q0) (As := []) (d' := 3) F hq0 lmX9_199 rfl rfl (Nat.le_of_ble_eq_true rfl) (xfit (Nat.le_trans (Nat.le_of_ble_eq_true rfl) hdep)) dX9_term_188 (fun hT z hz => wX9_letterHere (xnd F) (Nat.le_refl _) hT (a0 := q0) hq0 z hz) (fun v14 m13 => ?_)
          refine xj_istore_n (lv' := [(3, .int v14), (0, .ref (xad G q0)), (1, .int x1), (2, .int x2)]) F dX9_term_191 (by decide) rfl ?_
          refine xj_aload_n F 1 dX9_term_192 rfl ?_
          refine xj_bipush F 46 dX9_term_193 (by decide) ?_
          refine xj_callVV (b := q0) (As := [.int 46]) (d' := 3) F hq0 lmX9_195 rfl rfl (Nat.le_of_ble_eq_true rfl) (xfit (Nat.le_trans (Nat.le_of_ble_eq_true rfl) hdep)) dX9_term_195 (fun hT z hz => wX9_must (xnd F) (Nat.le_refl _) hT (a0 := q0) (a1 := 46) hq0 z hz) (fun m15 => ?_)
          refine xj_aload_n F 1 dX9_term_198 rfl ?_
          refine xj_callVI (b := q0) (As := []) (d' := 2) F hq0 lmX9_202 rfl rfl (Nat.le_of_ble_eq_true rfl) (xfit (Nat.le_trans (Nat.le_of_ble_eq_true rfl) hdep)) dX9_term_199 (fun hT z hz => wX9_nameHere (xnd F) (Nat.le_refl _) hT (a0 := q0) hq0 z hz) (fun v17 m16 => ?_)
          refine xj_istore (lv' := [(4, .int v17), (3, .int v14), (0, .ref (xad G q0)), (1, .int x1), (2, .int x2)]) F dX9_term_202 (by decide) rfl ?_
          refine xj_aload_n F 2 dX9_term_204 rfl ?_
          refine xj_bipush F 40 dX9_term_205 (by decide) ?_
          refine xj_callVI (b := q0) (As := [.int 40]) (d' := 2) F hq0 lmX9_148 rfl rfl (Nat.le_of_ble_eq_true rfl) (xfit (Nat.le_trans (Nat.le_of_ble_eq_true rfl) hdep)) dX9_term_207 (fun hT z hz => wX9_takesSign (xnd F) (Nat.le_refl _) hT (a0 := q0) (a1 := 40) hq0 z hz) (fun v19 m18 => ?_)
          refine xj_istore (lv' := [(5, .int v19), (4, .int v17), (3, .int v14), (0, .ref (xad G q0)), (1, .int x1), (2, .int x2)]) F dX9_term_210 (by decide) rfl ?_
          refine xj_iload F 0 dX9_term_212 rfl ?_
          refine xj_if_eq (tgt := 223) F dX9_term_214 (by decide) ?_ ?_
          · refine xj_sub (lv' := [(0, .ref (xad G q0)), (1, .int x1), (2, .int x2), (3, .int v14), (4, .int v17), (5, .int v19)]) [3, 4, 5, 2, 1, 0] rfl ?_
            exact jX9_term_223 F hdep hge hR1 q0 x1 x2 v14 v17 v19 m18 hq0
          · refine xj_aload_n F 3 dX9_term_217 rfl ?_
            refine xj_bipush F 41 dX9_term_218 (by decide) ?_
            refine xj_callVV (b := q0) (As := [.int 41]) (d' := 3) F hq0 lmX9_195 rfl rfl (Nat.le_of_ble_eq_true rfl) (xfit (Nat.le_trans (Nat.le_of_ble_eq_true rfl) hdep)) dX9_term_220 (fun hT z hz => wX9_must (xnd F) (Nat.le_refl _) hT (a0 := q0) (a1 := 41) hq0 z hz) (fun m20 => ?_)
            refine xj_sub (lv' := [(0, .ref (xad G q0)), (1, .int x1), (2, .int x2), (3, .int v14), (4, .int v17), (5, .int v19)]) [3, 4, 5, 2, 1, 0] rfl ?_
            exact jX9_term_223 F hdep hge hR1 q0 x1 x2 v14 v17 v19 m20 hq0
        · refine xj_aload_n F 0 dX9_term_146 rfl ?_
          refine xj_iload_n F 1 dX9_term_147 rfl ?_
          refine xj_iconst F 4 dX9_term_148 (by decide) ?_
          refine xj_iconst F (-1) dX9_term_149 (by decide) ?_
          refine xj_iconst F 0 dX9_term_150 (by decide) ?_
          refine xj_iload_n F 2 dX9_term_151 rfl ?_
          refine xj_callVI (b := q0) (As := [.int x1, .int 4, .int (-1), .int 0, .int x2]) (d' := 0) F hq0 lmX9_185 rfl rfl (Nat.le_of_ble_eq_true rfl) (xfit (Nat.le_trans (Nat.le_of_ble_eq_true rfl) hdep)) dX9_term_152 (fun hT z hz => wX9_adds (xnd F) (Nat.le_refl _) hT (a0 := q0) (a1 := x1) (a2 := 4) (a3 := (-1)) (a4 := 0) (a5 := x2) hq0 z hz) (fun v22 m21 => ?_)
          refine xj_istore_n (lv' := [(3, .int v22), (0, .ref (xad G q0)), (1, .int x1), (2, .int x2)]) F dX9_term_155 (by decide) rfl ?_
          refine xj_aload_n F 1 dX9_term_156 rfl ?_
          refine xj_callVI (b := q0) (As := []) (d' := e + 5) F hq0 lmX9_192 rfl rfl (Nat.le_of_ble_eq_true rfl) (xfit hge) dX9_term_157 (fun hT z hz => hR1 hT hq0 0 z hz) (fun v24 m23 => ?_)
          refine xj_istore (lv' := [(4, .int v24), (3, .int v22), (0, .ref (xad G q0)), (1, .int x1), (2, .int x2)]) F dX9_term_160 (by decide) rfl ?_
          refine xj_aload_n F 2 dX9_term_162 rfl ?_
          refine xj_getR F hq0 lgX9_23 dX9_term_163 (fun u25 hu25 => ?_)
          refine xj_sipush F 1410 dX9_term_166 (by decide) ?_
          refine xj_bipush F 6 dX9_term_169 (by decide) ?_
          refine xj_iload_n F 1 dX9_term_171 rfl ?_
          refine xj_imul F dX9_term_172 (fun v26 => ?_)
          refine xj_iadd F dX9_term_173 (fun v27 => ?_)
          refine xj_iconst F 2 dX9_term_174 (by decide) ?_
          refine xj_iadd F dX9_term_175 (fun v28 => ?_)
          refine xj_iload F 0 dX9_term_176 rfl ?_
          refine xj_iast F hu25 dX9_term_178 (fun m29 => ?_)
          refine xj_aload_n F 2 dX9_term_179 rfl ?_
          refine xj_bipush F 41 dX9_term_180 (by decide) ?_
          refine xj_callVV (b := q0) (As := [.int 41]) (d' := 3) F hq0 lmX9_195 rfl rfl (Nat.le_of_ble_eq_true rfl) (xfit (Nat.le_trans (Nat.le_of_ble_eq_true rfl) hdep)) dX9_term_182 (fun hT z hz => wX9_must (xnd F) (Nat.le_refl _) hT (a0 := q0) (a1 := 41) hq0 z hz) (fun m30 => ?_)
          refine xj_iload_n F 1 dX9_term_185 rfl ?_
          exact xj_ret F rfl dX9_term_186
      · refine xj_aload_n F 0 dX9_term_127 rfl ?_
        refine xj_iload_n F 1 dX9_term_128 rfl ?_
        refine xj_iconst F 3 dX9_term_129 (by decide) ?_
        refine xj_iconst F 0 dX9_term_130 (by decide) ?_
        refine xj_iconst F 0 dX9_term_131 (by decide) ?_
        refine xj_iload_n F 2 dX9_term_132 rfl ?_
        refine xj_callVI (b := q0) (As := [.int x1, .int 3, .int 0, .int 0, .int x2]) (d' := 0) F hq0 lmX9_185 rfl rfl (Nat.le_of_ble_eq_true rfl) (xfit (Nat.le_trans (Nat.le_of_ble_eq_true rfl) hdep)) dX9_term_133 (fun hT z hz => wX9_adds (xnd F) (Nat.le_refl _) hT (a0 := q0) (a1 := x1) (a2 := 3) (a3 := 0) (a4 := 0) (a5 := x2) hq0 z hz) (fun v32 m31 => ?_)
        exact xj_ret F rfl dX9_term_136
    · refine xj_aload_n F 0 dX9_term_105 rfl ?_
      refine xj_iload_n F 1 dX9_term_106 rfl ?_
      refine xj_iconst F 0 dX9_term_107 (by decide) ?_
      refine xj_aload_n F 0 dX9_term_108 rfl ?_
      refine xj_callVI (b := q0) (As := []) (d' := 2) F hq0 lmX9_182 rfl rfl (Nat.le_of_ble_eq_true rfl) (xfit (Nat.le_trans (Nat.le_of_ble_eq_true rfl) hdep)) dX9_term_109 (fun hT z hz => wX9_numberHere (xnd F) (Nat.le_refl _) hT (a0 := q0) hq0 z hz) (fun v34 m33 => ?_)
      refine xj_iconst F 0 dX9_term_112 (by decide) ?_
      refine xj_iload_n F 2 dX9_term_113 rfl ?_
      refine xj_callVI (b := q0) (As := [.int x1, .int 0, .int v34, .int 0, .int x2]) (d' := 0) F hq0 lmX9_185 rfl rfl (Nat.le_of_ble_eq_true rfl) (xfit (Nat.le_trans (Nat.le_of_ble_eq_true rfl) hdep)) dX9_term_114 (fun hT z hz => wX9_adds (xnd F) (Nat.le_refl _) hT (a0 := q0) (a1 := x1) (a2 := 0) (a3 := v34) (a4 := 0) (a5 := x2) hq0 z hz) (fun v36 m35 => ?_)
      exact xj_ret F rfl dX9_term_117
  · refine xj_aload_n F 0 dX9_term_59 rfl ?_
    refine xj_callVI (b := q0) (As := []) (d' := 1) F hq0 lmX9_123 rfl rfl (Nat.le_of_ble_eq_true rfl) (xfit (Nat.le_trans (Nat.le_of_ble_eq_true rfl) hdep)) dX9_term_60 (fun hT z hz => wX9_here (xnd F) (Nat.le_refl _) hT (a0 := q0) hq0 z hz) (fun v38 m37 => ?_)
    refine xj_callSI (As := [.int v38]) (d' := 0) F lmX9_168 rfl rfl (Nat.le_of_ble_eq_true rfl) (xfit (Nat.le_trans (Nat.le_of_ble_eq_true rfl) hdep)) dX9_term_63 (fun hT z hz => wX9_isDigit (xnd F) (Nat.le_refl _) hT (a0 := v38)  z hz) (fun v40 m39 => ?_)
    refine xj_if_eq (tgt := 76) F dX9_term_66 (by decide) ?_ ?_
    · refine xj_iconst F 0 dX9_term_76 (by decide) ?_
      refine xj_sub (lv' := [(0, .ref (xad G q0)), (2, .int x2)]) [0, 2] rfl ?_
      exact jX9_term_77 F hdep hge hR1 q0 x2 0 m39 hq0
    · refine xj_aload_n F 0 dX9_term_69 rfl ?_
      refine xj_callVI (b := q0) (As := []) (d' := 2) F hq0 lmX9_182 rfl rfl (Nat.le_of_ble_eq_true rfl) (xfit (Nat.le_trans (Nat.le_of_ble_eq_true rfl) hdep)) dX9_term_70 (fun hT z hz => wX9_numberHere (xnd F) (Nat.le_refl _) hT (a0 := q0) hq0 z hz) (fun v42 m41 => ?_)
      refine xj_goto (tgt := 77) F dX9_term_73 (by decide) ?_
      refine xj_sub (lv' := [(0, .ref (xad G q0)), (2, .int x2)]) [0, 2] rfl ?_
      exact jX9_term_77 F hdep hge hR1 q0 x2 v42 m41 hq0
set_option maxRecDepth 20000 in
set_option maxHeartbeats 4000000 in
theorem wX9_term {G : XG} {l : Launch} {d : Nat} (hn : xN G) (hdep : 6 ≤ d) {e : Nat} {R : Nat → Nat → Int32 → XM → Option (Int32 × XM)} (hge : e + 5 + 1 ≤ d) (hR1 : ∀ {m0 : XM}, xT G m0 → ∀ {q : Nat}, isa G q 9 → ∀ (x0 : Int32) (z : Int32 × XM), R 1 q x0 m0 = some z → xMet G l mX9_sumOn (e + 5) [.ref (xad G q)] m0 (xrI z)) {m0 : XM} (hT : xT G m0) {a0 : Nat} {a1 : Int32} (ha0 : isa G a0 9) : ∀ z, fX9_term (xln G) R a0 a1 m0 = some z → xMet G l mX9_term d [.ref (xad G a0), .int a1] m0 (xrI z) := by
  refine xMet_of (by decide +kernel) hn hT (Nat.le_of_ble_eq_true rfl) (fun X F => ?_)
  refine xj_sub (lv' := [(0, .ref (xad G a0)), (1, .int a1)]) [0, 1] rfl ?_
  unfold fX9_term
  refine xj_aload_n F 0 dX9_term_0 rfl ?_
  refine xj_callVI (b := a0) (As := []) (d' := 0) F ha0 lmX9_140 rfl rfl (Nat.le_of_ble_eq_true rfl) (xfit (Nat.le_trans (Nat.le_of_ble_eq_true rfl) hdep)) dX9_term_1 (fun hT z hz => wX9_fine (xnd F) (Nat.le_refl _) hT (a0 := a0) ha0 z hz) (fun v2 m1 => ?_)
  refine xj_if_ne (tgt := 9) F dX9_term_4 (by decide) ?_ ?_
  · refine xj_aload_n F 0 dX9_term_9 rfl ?_
    refine xj_callVI (b := a0) (As := []) (d' := 1) F ha0 lmX9_123 rfl rfl (Nat.le_of_ble_eq_true rfl) (xfit (Nat.le_trans (Nat.le_of_ble_eq_true rfl) hdep)) dX9_term_10 (fun hT z hz => wX9_here (xnd F) (Nat.le_refl _) hT (a0 := a0) ha0 z hz) (fun v4 m3 => ?_)
    refine xj_pop F dX9_term_13 rfl ?_
    refine xj_aload_n F 0 dX9_term_14 rfl ?_
    refine xj_get F ha0 lgX9_110 dX9_term_15 (fun v5 => ?_)
    refine xj_istore_n (lv' := [(2, .int v5), (0, .ref (xad G a0)), (1, .int a1)]) F dX9_term_18 (by decide) rfl ?_
    refine xj_aload_n F 1 dX9_term_19 rfl ?_
    refine xj_callVI (b := a0) (As := []) (d' := 5) F ha0 lmX9_176 rfl rfl (Nat.le_of_ble_eq_true rfl) (xfit (Nat.le_trans (Nat.le_of_ble_eq_true rfl) hdep)) dX9_term_20 (fun hT z hz => wX9_canBeTerm (xnd F) (Nat.le_refl _) hT (a0 := a0) ha0 z hz) (fun v7 m6 => ?_)
    refine xj_if_eq (tgt := 43) F dX9_term_23 (by decide) ?_ ?_
    · refine xj_sub (lv' := [(0, .ref (xad G a0)), (2, .int v5)]) [1, 0] rfl ?_
      exact jX9_term_43 F hdep hge hR1 a0 v5 m6 ha0
    · refine xj_aload_n F 1 dX9_term_26 rfl ?_
      refine xj_callVI (b := a0) (As := []) (d' := 1) F ha0 lmX9_123 rfl rfl (Nat.le_of_ble_eq_true rfl) (xfit (Nat.le_trans (Nat.le_of_ble_eq_true rfl) hdep)) dX9_term_27 (fun hT z hz => wX9_here (xnd F) (Nat.le_refl _) hT (a0 := a0) ha0 z hz) (fun v9 m8 => ?_)
      refine xj_callSI (As := [.int v9]) (d' := 0) F lmX9_159 rfl rfl (Nat.le_of_ble_eq_true rfl) (xfit (Nat.le_trans (Nat.le_of_ble_eq_true rfl) hdep)) dX9_term_30 (fun hT z hz => wX9_isBig (xnd F) (Nat.le_refl _) hT (a0 := v9)  z hz) (fun v11 m10 => ?_)
      refine xj_if_eq (tgt := 50) F dX9_term_33 (by decide) ?_ ?_
      · refine xj_sub (lv' := [(0, .ref (xad G a0)), (1, .int a1), (2, .int v5)]) [1, 2, 0] rfl ?_
        exact jX9_term_50 F hdep hge hR1 a0 a1 v5 m10 ha0
      · refine xj_aload_n F 1 dX9_term_36 rfl ?_
        refine xj_callVI (b := a0) (As := []) (d' := 2) F ha0 lmX9_162 rfl rfl (Nat.le_of_ble_eq_true rfl) (xfit (Nat.le_trans (Nat.le_of_ble_eq_true rfl) hdep)) dX9_term_37 (fun hT z hz => wX9_isUnitHere (xnd F) (Nat.le_refl _) hT (a0 := a0) ha0 z hz) (fun v13 m12 => ?_)
        refine xj_if_ne (tgt := 50) F dX9_term_40 (by decide) ?_ ?_
        · refine xj_sub (lv' := [(0, .ref (xad G a0)), (1, .int a1), (2, .int v5)]) [1, 2, 0] rfl ?_
          exact jX9_term_50 F hdep hge hR1 a0 a1 v5 m12 ha0
        · refine xj_sub (lv' := [(0, .ref (xad G a0)), (2, .int v5)]) [1, 0] rfl ?_
          exact jX9_term_43 F hdep hge hR1 a0 v5 m12 ha0
  · refine xj_iconst F (-1) dX9_term_7 (by decide) ?_
    exact xj_ret F rfl dX9_term_8
set_option maxRecDepth 20000 in
set_option maxHeartbeats 4000000 in
theorem jX9_sumOn_43 {G : XG} {l : Launch} {d : Nat} {X : XX} (F : xF (xE G d) G X mX9_sumOn) (hdep : 6 ≤ d) {e : Nat} {R : Nat → Nat → Int32 → XM → Option (Int32 × XM)} (hge : e + 5 + 1 ≤ d) (hR0 : ∀ {m0 : XM}, xT G m0 → ∀ {q : Nat}, isa G q 9 → ∀ (x0 : Int32) (z : Int32 × XM), R 0 q x0 m0 = some z → xMet G l mX9_term (e + 5) [.ref (xad G q), .int x0] m0 (xrI z)) {r9 : Nat → Int32 → Int32 → XM → Option (Int32 × XM)} (hr9 : ∀ (q0 : Nat) (x1 : Int32) (x2 : Int32) (m0 : XM), isa G q0 9 → xJ (xE G d) (xQ xrI G X mX9_sumOn) G l X mX9_sumOn 9 [(0, .ref (xad G q0)), (1, .int x1), (2, .int x2)] [] m0 (r9 q0 x1 x2 m0)) : ∀ (q0 : Nat) (x1 : Int32) (x2 : Int32) (m0 : XM), isa G q0 9 → xJ (xE G d) (xQ xrI G X mX9_sumOn) G l X mX9_sumOn 43 [(0, .ref (xad G q0)), (1, .int x1), (2, .int x2)] [] m0 (fX9_sumOn_43 (xln G) R r9 q0 x1 x2 m0) := by
  intro q0 x1 x2 m0 hq0
  unfold fX9_sumOn_43
  refine xj_aload_n F 0 dX9_sumOn_43 rfl ?_
  refine xj_callVI (b := q0) (As := []) (d' := 1) F hq0 lmX9_123 rfl rfl (Nat.le_of_ble_eq_true rfl) (xfit (Nat.le_trans (Nat.le_of_ble_eq_true rfl) hdep)) dX9_sumOn_44 (fun hT z hz => wX9_here (xnd F) (Nat.le_refl _) hT (a0 := q0) hq0 z hz) (fun v2 m1 => ?_)
  refine xj_istore_n (lv' := [(3, .int v2), (0, .ref (xad G q0)), (1, .int x1), (2, .int x2)]) F dX9_sumOn_47 (by decide) rfl ?_
  refine xj_aload_n F 1 dX9_sumOn_48 rfl ?_
  refine xj_dup F dX9_sumOn_49 rfl ?_
  refine xj_get F hq0 lgX9_110 dX9_sumOn_50 (fun v3 => ?_)
  refine xj_iconst F 1 dX9_sumOn_53 (by decide) ?_
  refine xj_iadd F dX9_sumOn_54 (fun v4 => ?_)
  refine xj_put F hq0 lpX9_110 dX9_sumOn_55 (fun m5 => ?_)
  refine xj_aload_n F 1 dX9_sumOn_58 rfl ?_
  refine xj_iload_n F 0 dX9_sumOn_59 rfl ?_
  refine xj_callVI (b := q0) (As := [.int v2]) (d' := e + 5) F hq0 lmX9_205 rfl rfl (Nat.le_of_ble_eq_true rfl) (xfit hge) dX9_sumOn_60 (fun hT z hz => hR0 hT hq0 v2 z hz) (fun v7 m6 => ?_)
  refine xj_istore (lv' := [(4, .int v7), (3, .int v2), (0, .ref (xad G q0)), (1, .int x1), (2, .int x2)]) F dX9_sumOn_63 (by decide) rfl ?_
  refine xj_aload_n F 2 dX9_sumOn_65 rfl ?_
  refine xj_callVI (b := q0) (As := []) (d' := 0) F hq0 lmX9_140 rfl rfl (Nat.le_of_ble_eq_true rfl) (xfit (Nat.le_trans (Nat.le_of_ble_eq_true rfl) hdep)) dX9_sumOn_66 (fun hT z hz => wX9_fine (xnd F) (Nat.le_refl _) hT (a0 := q0) hq0 z hz) (fun v9 m8 => ?_)
  refine xj_if_ne (tgt := 74) F dX9_sumOn_69 (by decide) ?_ ?_
  · refine xj_aload_n F 2 dX9_sumOn_74 rfl ?_
    refine xj_getR F hq0 lgX9_23 dX9_sumOn_75 (fun u10 hu10 => ?_)
    refine xj_sipush F 1410 dX9_sumOn_78 (by decide) ?_
    refine xj_bipush F 6 dX9_sumOn_81 (by decide) ?_
    refine xj_iload_n F 4 dX9_sumOn_83 rfl ?_
    refine xj_imul F dX9_sumOn_84 (fun v11 => ?_)
    refine xj_iadd F dX9_sumOn_85 (fun v12 => ?_)
    refine xj_iconst F 4 dX9_sumOn_86 (by decide) ?_
    refine xj_iadd F dX9_sumOn_87 (fun v13 => ?_)
    refine xj_iload F 0 dX9_sumOn_88 rfl ?_
    refine xj_iast F hu10 dX9_sumOn_90 (fun m14 => ?_)
    refine xj_iload F 0 dX9_sumOn_91 rfl ?_
    refine xj_istore_n (lv' := [(2, .int v7), (4, .int v7), (3, .int v2), (0, .ref (xad G q0)), (1, .int x1)]) F dX9_sumOn_93 (by decide) rfl ?_
    refine xj_goto (tgt := 9) F dX9_sumOn_94 (by decide) ?_
    refine xj_sub (lv' := [(0, .ref (xad G q0)), (1, .int x1), (2, .int v7)]) [3, 4, 0] rfl ?_
    exact hr9 q0 x1 v7 m14 hq0
  · refine xj_iconst F (-1) dX9_sumOn_72 (by decide) ?_
    exact xj_ret F rfl dX9_sumOn_73
set_option maxRecDepth 20000 in
set_option maxHeartbeats 4000000 in
theorem jX9_sumOn_9 {G : XG} {l : Launch} {d : Nat} {X : XX} (F : xF (xE G d) G X mX9_sumOn) (hdep : 6 ≤ d) {e : Nat} {R : Nat → Nat → Int32 → XM → Option (Int32 × XM)} (hge : e + 5 + 1 ≤ d) (hR0 : ∀ {m0 : XM}, xT G m0 → ∀ {q : Nat}, isa G q 9 → ∀ (x0 : Int32) (z : Int32 × XM), R 0 q x0 m0 = some z → xMet G l mX9_term (e + 5) [.ref (xad G q), .int x0] m0 (xrI z)) : ∀ (n : Nat) (q0 : Nat) (x1 : Int32) (x2 : Int32) (m0 : XM), isa G q0 9 → xJ (xE G d) (xQ xrI G X mX9_sumOn) G l X mX9_sumOn 9 [(0, .ref (xad G q0)), (1, .int x1), (2, .int x2)] [] m0 (fX9_sumOn_9 (xln G) R n q0 x1 x2 m0) := by
  intro n
  induction n with
  | zero => intro q0 x1 x2 m0 hq0; exact xj_none
  | succ n hr9 =>
    intro q0 x1 x2 m0 hq0
    unfold fX9_sumOn_9
    generalize hrg9 : (fun q0 x1 x2 m0 => fX9_sumOn_9 (xln G) R n q0 x1 x2 m0) = r9
    have hr9 : ∀ (q0 : Nat) (x1 : Int32) (x2 : Int32) (m0 : XM), isa G q0 9 → xJ (xE G d) (xQ xrI G X mX9_sumOn) G l X mX9_sumOn 9 [(0, .ref (xad G q0)), (1, .int x1), (2, .int x2)] [] m0 (r9 q0 x1 x2 m0) := by
      subst hrg9
      exact hr9
    clear hrg9
    refine xj_eq (xv_eq _ _) ?_
    refine xj_aload_n F 0 dX9_sumOn_9 rfl ?_
    refine xj_callVI (b := q0) (As := []) (d' := 0) F hq0 lmX9_140 rfl rfl (Nat.le_of_ble_eq_true rfl) (xfit (Nat.le_trans (Nat.le_of_ble_eq_true rfl) hdep)) dX9_sumOn_10 (fun hT z hz => wX9_fine (xnd F) (Nat.le_refl _) hT (a0 := q0) hq0 z hz) (fun v2 m1 => ?_)
    refine xj_if_eq (tgt := 97) F dX9_sumOn_13 (by decide) ?_ ?_
    · refine xj_iload_n F 1 dX9_sumOn_97 rfl ?_
      exact xj_ret F rfl dX9_sumOn_98
    · refine xj_aload_n F 0 dX9_sumOn_16 rfl ?_
      refine xj_callVI (b := q0) (As := []) (d' := 1) F hq0 lmX9_123 rfl rfl (Nat.le_of_ble_eq_true rfl) (xfit (Nat.le_trans (Nat.le_of_ble_eq_true rfl) hdep)) dX9_sumOn_17 (fun hT z hz => wX9_here (xnd F) (Nat.le_refl _) hT (a0 := q0) hq0 z hz) (fun v4 m3 => ?_)
      refine xj_bipush F 43 dX9_sumOn_20 (by decide) ?_
      refine xj_icmp_eq (tgt := 43) F dX9_sumOn_22 (by decide) ?_ ?_
      · exact jX9_sumOn_43 F hdep hge hR0 hr9 q0 x1 x2 m3 hq0
      · refine xj_aload_n F 0 dX9_sumOn_25 rfl ?_
        refine xj_callVI (b := q0) (As := []) (d' := 1) F hq0 lmX9_123 rfl rfl (Nat.le_of_ble_eq_true rfl) (xfit (Nat.le_trans (Nat.le_of_ble_eq_true rfl) hdep)) dX9_sumOn_26 (fun hT z hz => wX9_here (xnd F) (Nat.le_refl _) hT (a0 := q0) hq0 z hz) (fun v6 m5 => ?_)
        refine xj_bipush F 45 dX9_sumOn_29 (by decide) ?_
        refine xj_icmp_eq (tgt := 43) F dX9_sumOn_31 (by decide) ?_ ?_
        · exact jX9_sumOn_43 F hdep hge hR0 hr9 q0 x1 x2 m5 hq0
        · refine xj_aload_n F 0 dX9_sumOn_34 rfl ?_
          refine xj_callVI (b := q0) (As := []) (d' := 1) F hq0 lmX9_123 rfl rfl (Nat.le_of_ble_eq_true rfl) (xfit (Nat.le_trans (Nat.le_of_ble_eq_true rfl) hdep)) dX9_sumOn_35 (fun hT z hz => wX9_here (xnd F) (Nat.le_refl _) hT (a0 := q0) hq0 z hz) (fun v8 m7 => ?_)
          refine xj_bipush F 42 dX9_sumOn_38 (by decide) ?_
          refine xj_icmp_ne (tgt := 97) F dX9_sumOn_40 (by decide) ?_ ?_
          · refine xj_iload_n F 1 dX9_sumOn_97 rfl ?_
            exact xj_ret F rfl dX9_sumOn_98
          · exact jX9_sumOn_43 F hdep hge hR0 hr9 q0 x1 x2 m7 hq0
set_option maxRecDepth 20000 in
set_option maxHeartbeats 4000000 in
theorem wX9_sumOn {G : XG} {l : Launch} {d : Nat} (hn : xN G) (hdep : 6 ≤ d) {e : Nat} {R : Nat → Nat → Int32 → XM → Option (Int32 × XM)} (hge : e + 5 + 1 ≤ d) (hR0 : ∀ {m0 : XM}, xT G m0 → ∀ {q : Nat}, isa G q 9 → ∀ (x0 : Int32) (z : Int32 × XM), R 0 q x0 m0 = some z → xMet G l mX9_term (e + 5) [.ref (xad G q), .int x0] m0 (xrI z)) {m0 : XM} (hT : xT G m0) {a0 : Nat} (ha0 : isa G a0 9) : ∀ z, fX9_sumOn (xln G) R a0 m0 = some z → xMet G l mX9_sumOn d [.ref (xad G a0)] m0 (xrI z) := by
  refine xMet_of (by decide +kernel) hn hT (Nat.le_of_ble_eq_true rfl) (fun X F => ?_)
  refine xj_sub (lv' := [(0, .ref (xad G a0))]) [0] rfl ?_
  unfold fX9_sumOn
  refine xj_aload_n F 0 dX9_sumOn_0 rfl ?_
  refine xj_bipush F 43 dX9_sumOn_1 (by decide) ?_
  refine xj_callVI (b := a0) (As := [.int 43]) (d' := e + 5) F ha0 lmX9_205 rfl rfl (Nat.le_of_ble_eq_true rfl) (xfit hge) dX9_sumOn_3 (fun hT z hz => hR0 hT ha0 43 z hz) (fun v2 m1 => ?_)
  refine xj_istore_n (lv' := [(1, .int v2), (0, .ref (xad G a0))]) F dX9_sumOn_6 (by decide) rfl ?_
  refine xj_iload_n F 0 dX9_sumOn_7 rfl ?_
  refine xj_istore_n (lv' := [(2, .int v2), (1, .int v2), (0, .ref (xad G a0))]) F dX9_sumOn_8 (by decide) rfl ?_
  refine xj_sub (lv' := [(0, .ref (xad G a0)), (1, .int v2), (2, .int v2)]) [2, 1, 0] rfl ?_
  exact jX9_sumOn_9 F hdep hge hR0 XF a0 v2 v2 m1 ha0
set_option maxRecDepth 20000 in
set_option maxHeartbeats 4000000 in
theorem gwX9_term {G : XG} {l : Launch} (hn : xN G) : ∀ (e : Nat), (∀ {m0 : XM}, xT G m0 → ∀ {q : Nat}, isa G q 9 → ∀ (x0 : Int32) (z : Int32 × XM), gX9_term (xln G) e 0 q x0 m0 = some z → xMet G l mX9_term (e + 5) [.ref (xad G q), .int x0] m0 (xrI z)) ∧ (∀ {m0 : XM}, xT G m0 → ∀ {q : Nat}, isa G q 9 → ∀ (x0 : Int32) (z : Int32 × XM), gX9_term (xln G) e 1 q x0 m0 = some z → xMet G l mX9_sumOn (e + 5) [.ref (xad G q)] m0 (xrI z)) := by
  intro e
  induction e with
  | zero => exact ⟨(by intro m0 hT q hq x0 z hz; unfold gX9_term at hz; cases hz), (by intro m0 hT q hq x0 z hz; unfold gX9_term at hz; cases hz)⟩
  | succ e ih =>
    generalize hRg : (fun t q x0 m0 => gX9_term (xln G) e t q x0 m0) = R
    have hR0 : ∀ {m0 : XM}, xT G m0 → ∀ {q : Nat}, isa G q 9 → ∀ (x0 : Int32) (z : Int32 × XM), R 0 q x0 m0 = some z → xMet G l mX9_term (e + 5) [.ref (xad G q), .int x0] m0 (xrI z) := by
      subst hRg
      exact ih.1
    have hR1 : ∀ {m0 : XM}, xT G m0 → ∀ {q : Nat}, isa G q 9 → ∀ (x0 : Int32) (z : Int32 × XM), R 1 q x0 m0 = some z → xMet G l mX9_sumOn (e + 5) [.ref (xad G q)] m0 (xrI z) := by
      subst hRg
      exact ih.2
    have p0 : ∀ {m0 : XM}, xT G m0 → ∀ {q : Nat}, isa G q 9 → ∀ (x0 : Int32) (z : Int32 × XM), gX9_term (xln G) (e + 1) 0 q x0 m0 = some z → xMet G l mX9_term (e + 1 + 5) [.ref (xad G q), .int x0] m0 (xrI z) := by
      intro m0 hT q hq x0 z hz
      unfold gX9_term at hz
      rw [hRg] at hz
      have hz := hz
      simp only [xv, if_pos (show 0 = 0 from rfl)] at hz
      exact wX9_term hn (by omega) (e := e) (R := R) (by omega) hR1 hT (a0 := q) (a1 := x0) hq z hz
    have p1 : ∀ {m0 : XM}, xT G m0 → ∀ {q : Nat}, isa G q 9 → ∀ (x0 : Int32) (z : Int32 × XM), gX9_term (xln G) (e + 1) 1 q x0 m0 = some z → xMet G l mX9_sumOn (e + 1 + 5) [.ref (xad G q)] m0 (xrI z) := by
      intro m0 hT q hq x0 z hz
      unfold gX9_term at hz
      rw [hRg] at hz
      have hz := hz
      simp only [xv, if_neg (show ¬ 1 = 0 by decide), if_pos (show 1 = 1 from rfl)] at hz
      exact wX9_sumOn hn (by omega) (e := e) (R := R) (by omega) hR0 hT (a0 := q) hq z hz
    exact ⟨p0, p1⟩
set_option maxRecDepth 20000 in
set_option maxHeartbeats 4000000 in
theorem wX9_sum {G : XG} {l : Launch} {d : Nat} (hn : xN G) (hdep : 46 ≤ d) {m0 : XM} (hT : xT G m0) {a0 : Nat} (ha0 : isa G a0 9) : ∀ z, fX9_sum (xln G) a0 m0 = some z → xMet G l mX9_sum d [.ref (xad G a0)] m0 (xrI z) := by
  refine xMet_of (by decide +kernel) hn hT (Nat.le_of_ble_eq_true rfl) (fun X F => ?_)
  refine xj_sub (lv' := [(0, .ref (xad G a0))]) [0] rfl ?_
  unfold fX9_sum
  refine xj_aload_n F 0 dX9_sum_0 rfl ?_
  refine xj_iconst F 0 dX9_sum_1 (by decide) ?_
  refine xj_put F ha0 lpX9_179 dX9_sum_2 (fun m1 => ?_)
  refine xj_aload_n F 0 dX9_sum_5 rfl ?_
  refine xj_callVI (b := a0) (As := []) (d' := 45) F ha0 lmX9_192 rfl rfl (Nat.le_of_ble_eq_true rfl) (xfit (Nat.le_trans (Nat.le_of_ble_eq_true rfl) hdep)) dX9_sum_6 (fun hT z hz => (gwX9_term (xnd F) 40).2 hT ha0 0 z hz) (fun v3 m2 => ?_)
  exact xj_ret F rfl dX9_sum_9
set_option maxRecDepth 20000 in
set_option maxHeartbeats 4000000 in
theorem wX9_act {G : XG} {l : Launch} {d : Nat} (hn : xN G) (hdep : 0 ≤ d) {m0 : XM} (hT : xT G m0) {a0 : Nat} {a1 : Int32} {a2 : Int32} {a3 : Int32} {a4 : Int32} (ha0 : isa G a0 9) : ∀ z, fX9_act (xln G) a0 a1 a2 a3 a4 m0 = some z → xMet G l mX9_act d [.ref (xad G a0), .int a1, .int a2, .int a3, .int a4] m0 (xrI z) := by
  refine xMet_of (by decide +kernel) hn hT (Nat.le_of_ble_eq_true rfl) (fun X F => ?_)
  refine xj_sub (lv' := [(0, .ref (xad G a0)), (1, .int a1), (2, .int a2), (3, .int a3), (4, .int a4)]) [0, 1, 2, 3, 4] rfl ?_
  unfold fX9_act
  refine xj_sipush F 530 dX9_act_0 (by decide) ?_
  refine xj_iconst F 4 dX9_act_3 (by decide) ?_
  refine xj_aload_n F 0 dX9_act_4 rfl ?_
  refine xj_getR F ha0 lgX9_23 dX9_act_5 (fun u1 hu1 => ?_)
  refine xj_iconst F 2 dX9_act_8 (by decide) ?_
  refine xj_iald F hu1 dX9_act_9 (fun v2 => ?_)
  refine xj_imul F dX9_act_10 (fun v3 => ?_)
  refine xj_iadd F dX9_act_11 (fun v4 => ?_)
  refine xj_istore (lv' := [(5, .int v4), (0, .ref (xad G a0)), (1, .int a1), (2, .int a2), (3, .int a3), (4, .int a4)]) F dX9_act_12 (by decide) rfl ?_
  refine xj_aload_n F 1 dX9_act_14 rfl ?_
  refine xj_getR F ha0 lgX9_23 dX9_act_15 (fun u5 hu5 => ?_)
  refine xj_iload F 0 dX9_act_18 rfl ?_
  refine xj_iload_n F 2 dX9_act_20 rfl ?_
  refine xj_iast F hu5 dX9_act_21 (fun m6 => ?_)
  refine xj_aload_n F 1 dX9_act_22 rfl ?_
  refine xj_getR F ha0 lgX9_23 dX9_act_23 (fun u7 hu7 => ?_)
  refine xj_iload F 0 dX9_act_26 rfl ?_
  refine xj_iconst F 1 dX9_act_28 (by decide) ?_
  refine xj_iadd F dX9_act_29 (fun v8 => ?_)
  refine xj_iload_n F 3 dX9_act_30 rfl ?_
  refine xj_iast F hu7 dX9_act_31 (fun m9 => ?_)
  refine xj_aload_n F 1 dX9_act_32 rfl ?_
  refine xj_getR F ha0 lgX9_23 dX9_act_33 (fun u10 hu10 => ?_)
  refine xj_iload F 0 dX9_act_36 rfl ?_
  refine xj_iconst F 2 dX9_act_38 (by decide) ?_
  refine xj_iadd F dX9_act_39 (fun v11 => ?_)
  refine xj_iload_n F 4 dX9_act_40 rfl ?_
  refine xj_iast F hu10 dX9_act_41 (fun m12 => ?_)
  refine xj_aload_n F 1 dX9_act_42 rfl ?_
  refine xj_getR F ha0 lgX9_23 dX9_act_43 (fun u13 hu13 => ?_)
  refine xj_iload F 0 dX9_act_46 rfl ?_
  refine xj_iconst F 3 dX9_act_48 (by decide) ?_
  refine xj_iadd F dX9_act_49 (fun v14 => ?_)
  refine xj_iload F 5 dX9_act_50 rfl ?_
  refine xj_iast F hu13 dX9_act_52 (fun m15 => ?_)
  refine xj_aload_n F 1 dX9_act_53 rfl ?_
  refine xj_getR F ha0 lgX9_23 dX9_act_54 (fun u16 hu16 => ?_)
  refine xj_iconst F 2 dX9_act_57 (by decide) ?_
  refine xj_dup2 F dX9_act_58 rfl rfl ?_
  refine xj_iald F hu16 dX9_act_59 (fun v17 => ?_)
  refine xj_iconst F 1 dX9_act_60 (by decide) ?_
  refine xj_iadd F dX9_act_61 (fun v18 => ?_)
  refine xj_iast F hu16 dX9_act_62 (fun m19 => ?_)
  refine xj_aload_n F 1 dX9_act_63 rfl ?_
  refine xj_getR F ha0 lgX9_23 dX9_act_64 (fun u20 hu20 => ?_)
  refine xj_iconst F 2 dX9_act_67 (by decide) ?_
  refine xj_iald F hu20 dX9_act_68 (fun v21 => ?_)
  refine xj_iconst F 1 dX9_act_69 (by decide) ?_
  refine xj_isub F dX9_act_70 (fun v22 => ?_)
  exact xj_ret F rfl dX9_act_71
set_option maxRecDepth 20000 in
set_option maxHeartbeats 4000000 in
theorem wX9_setHere {G : XG} {l : Launch} {d : Nat} (hn : xN G) (hdep : 47 ≤ d) {m0 : XM} (hT : xT G m0) {a0 : Nat} (ha0 : isa G a0 9) : ∀ z, fX9_setHere (xln G) a0 m0 = some z → xMet G l mX9_setHere d [.ref (xad G a0)] m0 (xrI z) := by
  refine xMet_of (by decide +kernel) hn hT (Nat.le_of_ble_eq_true rfl) (fun X F => ?_)
  refine xj_sub (lv' := [(0, .ref (xad G a0))]) [0] rfl ?_
  unfold fX9_setHere
  refine xj_aload_n F 0 dX9_setHere_0 rfl ?_
  refine xj_callVI (b := a0) (As := []) (d' := 1) F ha0 lmX9_123 rfl rfl (Nat.le_of_ble_eq_true rfl) (xfit (Nat.le_trans (Nat.le_of_ble_eq_true rfl) hdep)) dX9_setHere_1 (fun hT z hz => wX9_here (xnd F) (Nat.le_refl _) hT (a0 := a0) ha0 z hz) (fun v2 m1 => ?_)
  refine xj_pop F dX9_setHere_4 rfl ?_
  refine xj_aload_n F 0 dX9_setHere_5 rfl ?_
  refine xj_get F ha0 lgX9_110 dX9_setHere_6 (fun v3 => ?_)
  refine xj_istore_n (lv' := [(1, .int v3), (0, .ref (xad G a0))]) F dX9_setHere_9 (by decide) rfl ?_
  refine xj_aload_n F 1 dX9_setHere_10 rfl ?_
  refine xj_callVI (b := a0) (As := []) (d' := 3) F ha0 lmX9_199 rfl rfl (Nat.le_of_ble_eq_true rfl) (xfit (Nat.le_trans (Nat.le_of_ble_eq_true rfl) hdep)) dX9_setHere_11 (fun hT z hz => wX9_letterHere (xnd F) (Nat.le_refl _) hT (a0 := a0) ha0 z hz) (fun v5 m4 => ?_)
  refine xj_istore_n (lv' := [(2, .int v5), (1, .int v3), (0, .ref (xad G a0))]) F dX9_setHere_14 (by decide) rfl ?_
  refine xj_aload_n F 2 dX9_setHere_15 rfl ?_
  refine xj_bipush F 46 dX9_setHere_16 (by decide) ?_
  refine xj_callVV (b := a0) (As := [.int 46]) (d' := 3) F ha0 lmX9_195 rfl rfl (Nat.le_of_ble_eq_true rfl) (xfit (Nat.le_trans (Nat.le_of_ble_eq_true rfl) hdep)) dX9_setHere_18 (fun hT z hz => wX9_must (xnd F) (Nat.le_refl _) hT (a0 := a0) (a1 := 46) ha0 z hz) (fun m6 => ?_)
  refine xj_aload_n F 2 dX9_setHere_21 rfl ?_
  refine xj_callVI (b := a0) (As := []) (d' := 2) F ha0 lmX9_202 rfl rfl (Nat.le_of_ble_eq_true rfl) (xfit (Nat.le_trans (Nat.le_of_ble_eq_true rfl) hdep)) dX9_setHere_22 (fun hT z hz => wX9_nameHere (xnd F) (Nat.le_refl _) hT (a0 := a0) ha0 z hz) (fun v8 m7 => ?_)
  refine xj_istore_n (lv' := [(3, .int v8), (2, .int v5), (1, .int v3), (0, .ref (xad G a0))]) F dX9_setHere_25 (by decide) rfl ?_
  refine xj_aload_n F 3 dX9_setHere_26 rfl ?_
  refine xj_bipush F 61 dX9_setHere_27 (by decide) ?_
  refine xj_callVV (b := a0) (As := [.int 61]) (d' := 3) F ha0 lmX9_195 rfl rfl (Nat.le_of_ble_eq_true rfl) (xfit (Nat.le_trans (Nat.le_of_ble_eq_true rfl) hdep)) dX9_setHere_29 (fun hT z hz => wX9_must (xnd F) (Nat.le_refl _) hT (a0 := a0) (a1 := 61) ha0 z hz) (fun m9 => ?_)
  refine xj_aload_n F 3 dX9_setHere_32 rfl ?_
  refine xj_callVI (b := a0) (As := []) (d' := 46) F ha0 lmX9_208 rfl rfl (Nat.le_of_ble_eq_true rfl) (xfit (Nat.le_trans (Nat.le_of_ble_eq_true rfl) hdep)) dX9_setHere_33 (fun hT z hz => wX9_sum (xnd F) (Nat.le_refl _) hT (a0 := a0) ha0 z hz) (fun v11 m10 => ?_)
  refine xj_istore (lv' := [(4, .int v11), (3, .int v8), (2, .int v5), (1, .int v3), (0, .ref (xad G a0))]) F dX9_setHere_36 (by decide) rfl ?_
  refine xj_aload_n F 4 dX9_setHere_38 rfl ?_
  refine xj_bipush F 59 dX9_setHere_39 (by decide) ?_
  refine xj_callVV (b := a0) (As := [.int 59]) (d' := 3) F ha0 lmX9_195 rfl rfl (Nat.le_of_ble_eq_true rfl) (xfit (Nat.le_trans (Nat.le_of_ble_eq_true rfl) hdep)) dX9_setHere_41 (fun hT z hz => wX9_must (xnd F) (Nat.le_refl _) hT (a0 := a0) (a1 := 59) ha0 z hz) (fun m12 => ?_)
  refine xj_aload_n F 4 dX9_setHere_44 rfl ?_
  refine xj_callVI (b := a0) (As := []) (d' := 0) F ha0 lmX9_140 rfl rfl (Nat.le_of_ble_eq_true rfl) (xfit (Nat.le_trans (Nat.le_of_ble_eq_true rfl) hdep)) dX9_setHere_45 (fun hT z hz => wX9_fine (xnd F) (Nat.le_refl _) hT (a0 := a0) ha0 z hz) (fun v14 m13 => ?_)
  refine xj_if_eq (tgt := 63) F dX9_setHere_48 (by decide) ?_ ?_
  · refine xj_iconst F (-1) dX9_setHere_63 (by decide) ?_
    exact xj_ret F rfl dX9_setHere_64
  · refine xj_aload_n F 4 dX9_setHere_51 rfl ?_
    refine xj_iload_n F 2 dX9_setHere_52 rfl ?_
    refine xj_iload_n F 1 dX9_setHere_53 rfl ?_
    refine xj_iload F 0 dX9_setHere_54 rfl ?_
    refine xj_iload_n F 3 dX9_setHere_56 rfl ?_
    refine xj_callVI (b := a0) (As := [.int v5, .int v8, .int v11, .int v3]) (d' := 0) F ha0 lmX9_211 rfl rfl (Nat.le_of_ble_eq_true rfl) (xfit (Nat.le_trans (Nat.le_of_ble_eq_true rfl) hdep)) dX9_setHere_57 (fun hT z hz => wX9_act (xnd F) (Nat.le_refl _) hT (a0 := a0) (a1 := v5) (a2 := v8) (a3 := v11) (a4 := v3) ha0 z hz) (fun v16 m15 => ?_)
    refine xj_goto (tgt := 64) F dX9_setHere_60 (by decide) ?_
    exact xj_ret F rfl dX9_setHere_64
set_option maxRecDepth 20000 in
set_option maxHeartbeats 4000000 in
theorem wX9_doHere {G : XG} {l : Launch} {d : Nat} (hn : xN G) (hdep : 47 ≤ d) {m0 : XM} (hT : xT G m0) {a0 : Nat} (ha0 : isa G a0 9) : ∀ z, fX9_doHere (xln G) a0 m0 = some z → xMet G l mX9_doHere d [.ref (xad G a0)] m0 (xrI z) := by
  refine xMet_of (by decide +kernel) hn hT (Nat.le_of_ble_eq_true rfl) (fun X F => ?_)
  refine xj_sub (lv' := [(0, .ref (xad G a0))]) [0] rfl ?_
  unfold fX9_doHere
  refine xj_aload_n F 0 dX9_doHere_0 rfl ?_
  refine xj_callVI (b := a0) (As := []) (d' := 1) F ha0 lmX9_123 rfl rfl (Nat.le_of_ble_eq_true rfl) (xfit (Nat.le_trans (Nat.le_of_ble_eq_true rfl) hdep)) dX9_doHere_1 (fun hT z hz => wX9_here (xnd F) (Nat.le_refl _) hT (a0 := a0) ha0 z hz) (fun v2 m1 => ?_)
  refine xj_pop F dX9_doHere_4 rfl ?_
  refine xj_aload_n F 0 dX9_doHere_5 rfl ?_
  refine xj_get F ha0 lgX9_110 dX9_doHere_6 (fun v3 => ?_)
  refine xj_istore_n (lv' := [(1, .int v3), (0, .ref (xad G a0))]) F dX9_doHere_9 (by decide) rfl ?_
  refine xj_aload_n F 1 dX9_doHere_10 rfl ?_
  refine xj_callVI (b := a0) (As := []) (d' := 46) F ha0 lmX9_208 rfl rfl (Nat.le_of_ble_eq_true rfl) (xfit (Nat.le_trans (Nat.le_of_ble_eq_true rfl) hdep)) dX9_doHere_11 (fun hT z hz => wX9_sum (xnd F) (Nat.le_refl _) hT (a0 := a0) ha0 z hz) (fun v5 m4 => ?_)
  refine xj_istore_n (lv' := [(2, .int v5), (1, .int v3), (0, .ref (xad G a0))]) F dX9_doHere_14 (by decide) rfl ?_
  refine xj_aload_n F 2 dX9_doHere_15 rfl ?_
  refine xj_bipush F 59 dX9_doHere_16 (by decide) ?_
  refine xj_callVV (b := a0) (As := [.int 59]) (d' := 3) F ha0 lmX9_195 rfl rfl (Nat.le_of_ble_eq_true rfl) (xfit (Nat.le_trans (Nat.le_of_ble_eq_true rfl) hdep)) dX9_doHere_18 (fun hT z hz => wX9_must (xnd F) (Nat.le_refl _) hT (a0 := a0) (a1 := 59) ha0 z hz) (fun m6 => ?_)
  refine xj_aload_n F 2 dX9_doHere_21 rfl ?_
  refine xj_callVI (b := a0) (As := []) (d' := 0) F ha0 lmX9_140 rfl rfl (Nat.le_of_ble_eq_true rfl) (xfit (Nat.le_trans (Nat.le_of_ble_eq_true rfl) hdep)) dX9_doHere_22 (fun hT z hz => wX9_fine (xnd F) (Nat.le_refl _) hT (a0 := a0) ha0 z hz) (fun v8 m7 => ?_)
  refine xj_if_eq (tgt := 39) F dX9_doHere_25 (by decide) ?_ ?_
  · refine xj_iconst F (-1) dX9_doHere_39 (by decide) ?_
    exact xj_ret F rfl dX9_doHere_40
  · refine xj_aload_n F 2 dX9_doHere_28 rfl ?_
    refine xj_iconst F (-1) dX9_doHere_29 (by decide) ?_
    refine xj_iconst F (-1) dX9_doHere_30 (by decide) ?_
    refine xj_iload_n F 0 dX9_doHere_31 rfl ?_
    refine xj_iload_n F 1 dX9_doHere_32 rfl ?_
    refine xj_callVI (b := a0) (As := [.int (-1), .int (-1), .int v5, .int v3]) (d' := 0) F ha0 lmX9_211 rfl rfl (Nat.le_of_ble_eq_true rfl) (xfit (Nat.le_trans (Nat.le_of_ble_eq_true rfl) hdep)) dX9_doHere_33 (fun hT z hz => wX9_act (xnd F) (Nat.le_refl _) hT (a0 := a0) (a1 := (-1)) (a2 := (-1)) (a3 := v5) (a4 := v3) ha0 z hz) (fun v10 m9 => ?_)
    refine xj_goto (tgt := 40) F dX9_doHere_36 (by decide) ?_
    exact xj_ret F rfl dX9_doHere_40
set_option maxRecDepth 20000 in
set_option maxHeartbeats 4000000 in
theorem wX9_addsMember {G : XG} {l : Launch} {d : Nat} (hn : xN G) (hdep : 0 ≤ d) {m0 : XM} (hT : xT G m0) {a0 : Nat} {a1 : Int32} {a2 : Int32} {a3 : Int32} {a4 : Int32} {a5 : Int32} {a6 : Int32} (ha0 : isa G a0 9) : ∀ z, fX9_addsMember (xln G) a0 a1 a2 a3 a4 a5 a6 m0 = some z → xMet G l mX9_addsMember d [.ref (xad G a0), .int a1, .int a2, .int a3, .int a4, .int a5, .int a6] m0 (xrV z) := by
  refine xMet_of (by decide +kernel) hn hT (Nat.le_of_ble_eq_true rfl) (fun X F => ?_)
  refine xj_sub (lv' := [(0, .ref (xad G a0)), (1, .int a1), (2, .int a2), (3, .int a3), (4, .int a4), (5, .int a5), (6, .int a6)]) [0, 1, 2, 3, 4, 5, 6] rfl ?_
  unfold fX9_addsMember
  refine xj_aload_n F 0 dX9_addsMember_0 rfl ?_
  refine xj_getR F ha0 lgX9_23 dX9_addsMember_1 (fun u1 hu1 => ?_)
  refine xj_iconst F 1 dX9_addsMember_4 (by decide) ?_
  refine xj_iald F hu1 dX9_addsMember_5 (fun v2 => ?_)
  refine xj_istore (lv' := [(7, .int v2), (0, .ref (xad G a0)), (1, .int a1), (2, .int a2), (3, .int a3), (4, .int a4), (5, .int a5), (6, .int a6)]) F dX9_addsMember_6 (by decide) rfl ?_
  refine xj_bipush F 110 dX9_addsMember_8 (by decide) ?_
  refine xj_iconst F 5 dX9_addsMember_10 (by decide) ?_
  refine xj_iload F 0 dX9_addsMember_11 rfl ?_
  refine xj_imul F dX9_addsMember_13 (fun v3 => ?_)
  refine xj_iadd F dX9_addsMember_14 (fun v4 => ?_)
  refine xj_istore (lv' := [(8, .int v4), (7, .int v2), (0, .ref (xad G a0)), (1, .int a1), (2, .int a2), (3, .int a3), (4, .int a4), (5, .int a5), (6, .int a6)]) F dX9_addsMember_15 (by decide) rfl ?_
  refine xj_aload_n F 2 dX9_addsMember_17 rfl ?_
  refine xj_getR F ha0 lgX9_23 dX9_addsMember_18 (fun u5 hu5 => ?_)
  refine xj_iload F 0 dX9_addsMember_21 rfl ?_
  refine xj_iload_n F 4 dX9_addsMember_23 rfl ?_
  refine xj_iast F hu5 dX9_addsMember_24 (fun m6 => ?_)
  refine xj_aload_n F 2 dX9_addsMember_25 rfl ?_
  refine xj_getR F ha0 lgX9_23 dX9_addsMember_26 (fun u7 hu7 => ?_)
  refine xj_iload F 0 dX9_addsMember_29 rfl ?_
  refine xj_iconst F 1 dX9_addsMember_31 (by decide) ?_
  refine xj_iadd F dX9_addsMember_32 (fun v8 => ?_)
  refine xj_iload_n F 5 dX9_addsMember_33 rfl ?_
  refine xj_iast F hu7 dX9_addsMember_34 (fun m9 => ?_)
  refine xj_aload_n F 2 dX9_addsMember_35 rfl ?_
  refine xj_getR F ha0 lgX9_23 dX9_addsMember_36 (fun u10 hu10 => ?_)
  refine xj_iload F 0 dX9_addsMember_39 rfl ?_
  refine xj_iconst F 2 dX9_addsMember_41 (by decide) ?_
  refine xj_iadd F dX9_addsMember_42 (fun v11 => ?_)
  refine xj_iload F 6 dX9_addsMember_43 rfl ?_
  refine xj_iast F hu10 dX9_addsMember_45 (fun m12 => ?_)
  refine xj_aload_n F 2 dX9_addsMember_46 rfl ?_
  refine xj_getR F ha0 lgX9_23 dX9_addsMember_47 (fun u13 hu13 => ?_)
  refine xj_iload F 0 dX9_addsMember_50 rfl ?_
  refine xj_iconst F 3 dX9_addsMember_52 (by decide) ?_
  refine xj_iadd F dX9_addsMember_53 (fun v14 => ?_)
  refine xj_iload F 7 dX9_addsMember_54 rfl ?_
  refine xj_iast F hu13 dX9_addsMember_56 (fun m15 => ?_)
  refine xj_aload_n F 2 dX9_addsMember_57 rfl ?_
  refine xj_getR F ha0 lgX9_23 dX9_addsMember_58 (fun u16 hu16 => ?_)
  refine xj_iload F 0 dX9_addsMember_61 rfl ?_
  refine xj_iconst F 4 dX9_addsMember_63 (by decide) ?_
  refine xj_iadd F dX9_addsMember_64 (fun v17 => ?_)
  refine xj_iload F 8 dX9_addsMember_65 rfl ?_
  refine xj_iast F hu16 dX9_addsMember_67 (fun m18 => ?_)
  refine xj_aload_n F 2 dX9_addsMember_68 rfl ?_
  refine xj_getR F ha0 lgX9_23 dX9_addsMember_69 (fun u19 hu19 => ?_)
  refine xj_iconst F 1 dX9_addsMember_72 (by decide) ?_
  refine xj_dup2 F dX9_addsMember_73 rfl rfl ?_
  refine xj_iald F hu19 dX9_addsMember_74 (fun v20 => ?_)
  refine xj_iconst F 1 dX9_addsMember_75 (by decide) ?_
  refine xj_iadd F dX9_addsMember_76 (fun v21 => ?_)
  refine xj_iast F hu19 dX9_addsMember_77 (fun m22 => ?_)
  refine xj_iconst F 5 dX9_addsMember_78 (by decide) ?_
  refine xj_bipush F 15 dX9_addsMember_79 (by decide) ?_
  refine xj_iload_n F 3 dX9_addsMember_81 rfl ?_
  refine xj_imul F dX9_addsMember_82 (fun v23 => ?_)
  refine xj_iadd F dX9_addsMember_83 (fun v24 => ?_)
  refine xj_istore (lv' := [(9, .int v24), (8, .int v4), (7, .int v2), (0, .ref (xad G a0)), (1, .int a1), (2, .int a2), (3, .int a3), (4, .int a4), (5, .int a5), (6, .int a6)]) F dX9_addsMember_84 (by decide) rfl ?_
  refine xj_aload_n F 3 dX9_addsMember_86 rfl ?_
  refine xj_getR F ha0 lgX9_23 dX9_addsMember_87 (fun u25 hu25 => ?_)
  refine xj_iload F 0 dX9_addsMember_90 rfl ?_
  refine xj_iconst F 3 dX9_addsMember_92 (by decide) ?_
  refine xj_iadd F dX9_addsMember_93 (fun v26 => ?_)
  refine xj_aload_n F 3 dX9_addsMember_94 rfl ?_
  refine xj_getR F ha0 lgX9_23 dX9_addsMember_95 (fun u27 hu27 => ?_)
  refine xj_iload F 0 dX9_addsMember_98 rfl ?_
  refine xj_iconst F 2 dX9_addsMember_100 (by decide) ?_
  refine xj_iadd F dX9_addsMember_101 (fun v28 => ?_)
  refine xj_iald F hu27 dX9_addsMember_102 (fun v29 => ?_)
  refine xj_iadd F dX9_addsMember_103 (fun v30 => ?_)
  refine xj_iload F 2 dX9_addsMember_104 rfl ?_
  refine xj_iast F hu25 dX9_addsMember_106 (fun m31 => ?_)
  refine xj_aload_n F 3 dX9_addsMember_107 rfl ?_
  refine xj_getR F ha0 lgX9_23 dX9_addsMember_108 (fun u32 hu32 => ?_)
  refine xj_iload F 0 dX9_addsMember_111 rfl ?_
  refine xj_iconst F 2 dX9_addsMember_113 (by decide) ?_
  refine xj_iadd F dX9_addsMember_114 (fun v33 => ?_)
  refine xj_dup2 F dX9_addsMember_115 rfl rfl ?_
  refine xj_iald F hu32 dX9_addsMember_116 (fun v34 => ?_)
  refine xj_iconst F 1 dX9_addsMember_117 (by decide) ?_
  refine xj_iadd F dX9_addsMember_118 (fun v35 => ?_)
  refine xj_iast F hu32 dX9_addsMember_119 (fun m36 => ?_)
  exact xj_retV F rfl dX9_addsMember_120
set_option maxRecDepth 20000 in
set_option maxHeartbeats 4000000 in
theorem wX9_freshName {G : XG} {l : Launch} {d : Nat} (hn : xN G) (hdep : 3 ≤ d) {m0 : XM} (hT : xT G m0) {a0 : Nat} {a1 : Int32} (ha0 : isa G a0 9) : ∀ z, fX9_freshName (xln G) a0 a1 m0 = some z → xMet G l mX9_freshName d [.ref (xad G a0), .int a1] m0 (xrI z) := by
  refine xMet_of (by decide +kernel) hn hT (Nat.le_of_ble_eq_true rfl) (fun X F => ?_)
  refine xj_sub (lv' := [(0, .ref (xad G a0)), (1, .int a1)]) [0, 1] rfl ?_
  unfold fX9_freshName
  refine xj_aload_n F 0 dX9_freshName_0 rfl ?_
  refine xj_callVI (b := a0) (As := []) (d' := 0) F ha0 lmX9_140 rfl rfl (Nat.le_of_ble_eq_true rfl) (xfit (Nat.le_trans (Nat.le_of_ble_eq_true rfl) hdep)) dX9_freshName_1 (fun hT z hz => wX9_fine (xnd F) (Nat.le_refl _) hT (a0 := a0) ha0 z hz) (fun v2 m1 => ?_)
  refine xj_if_ne (tgt := 9) F dX9_freshName_4 (by decide) ?_ ?_
  · refine xj_aload_n F 0 dX9_freshName_9 rfl ?_
    refine xj_callVI (b := a0) (As := []) (d' := 1) F ha0 lmX9_123 rfl rfl (Nat.le_of_ble_eq_true rfl) (xfit (Nat.le_trans (Nat.le_of_ble_eq_true rfl) hdep)) dX9_freshName_10 (fun hT z hz => wX9_here (xnd F) (Nat.le_refl _) hT (a0 := a0) ha0 z hz) (fun v4 m3 => ?_)
    refine xj_pop F dX9_freshName_13 rfl ?_
    refine xj_aload_n F 0 dX9_freshName_14 rfl ?_
    refine xj_get F ha0 lgX9_110 dX9_freshName_15 (fun v5 => ?_)
    refine xj_istore_n (lv' := [(2, .int v5), (0, .ref (xad G a0)), (1, .int a1)]) F dX9_freshName_18 (by decide) rfl ?_
    refine xj_aload_n F 1 dX9_freshName_19 rfl ?_
    refine xj_callVI (b := a0) (As := []) (d' := 2) F ha0 lmX9_202 rfl rfl (Nat.le_of_ble_eq_true rfl) (xfit (Nat.le_trans (Nat.le_of_ble_eq_true rfl) hdep)) dX9_freshName_20 (fun hT z hz => wX9_nameHere (xnd F) (Nat.le_refl _) hT (a0 := a0) ha0 z hz) (fun v7 m6 => ?_)
    refine xj_istore_n (lv' := [(3, .int v7), (2, .int v5), (0, .ref (xad G a0)), (1, .int a1)]) F dX9_freshName_23 (by decide) rfl ?_
    refine xj_aload_n F 2 dX9_freshName_24 rfl ?_
    refine xj_callVI (b := a0) (As := []) (d' := 0) F ha0 lmX9_140 rfl rfl (Nat.le_of_ble_eq_true rfl) (xfit (Nat.le_trans (Nat.le_of_ble_eq_true rfl) hdep)) dX9_freshName_25 (fun hT z hz => wX9_fine (xnd F) (Nat.le_refl _) hT (a0 := a0) ha0 z hz) (fun v9 m8 => ?_)
    refine xj_if_eq (tgt := 51) F dX9_freshName_28 (by decide) ?_ ?_
    · refine xj_iload_n F 0 dX9_freshName_51 rfl ?_
      exact xj_ret F rfl dX9_freshName_52
    · refine xj_aload_n F 2 dX9_freshName_31 rfl ?_
      refine xj_getR F ha0 lgX9_23 dX9_freshName_32 (fun u10 hu10 => ?_)
      refine xj_iload_n F 3 dX9_freshName_35 rfl ?_
      refine xj_iload_n F 0 dX9_freshName_36 rfl ?_
      refine xj_callSI (As := [.ref (xad G u10), .int a1, .int v7]) (d' := 1) F lmX9_215 rfl rfl (Nat.le_of_ble_eq_true rfl) (xfit (Nat.le_trans (Nat.le_of_ble_eq_true rfl) hdep)) dX9_freshName_37 (fun hT z hz => wX9_named (xnd F) (Nat.le_refl _) hT (a0 := u10) (a1 := a1) (a2 := v7) hu10 z hz) (fun v12 m11 => ?_)
      refine xj_iconst F (-1) dX9_freshName_40 (by decide) ?_
      refine xj_icmp_eq (tgt := 51) F dX9_freshName_41 (by decide) ?_ ?_
      · refine xj_iload_n F 0 dX9_freshName_51 rfl ?_
        exact xj_ret F rfl dX9_freshName_52
      · refine xj_aload_n F 2 dX9_freshName_44 rfl ?_
        refine xj_iconst F 4 dX9_freshName_45 (by decide) ?_
        refine xj_iload_n F 1 dX9_freshName_46 rfl ?_
        refine xj_callVI (b := a0) (As := [.int 4, .int v5]) (d' := 0) F ha0 lmX9_151 rfl rfl (Nat.le_of_ble_eq_true rfl) (xfit (Nat.le_trans (Nat.le_of_ble_eq_true rfl) hdep)) dX9_freshName_47 (fun hT z hz => wX9_wrong (xnd F) (Nat.le_refl _) hT (a0 := a0) (a1 := 4) (a2 := v5) ha0 z hz) (fun v14 m13 => ?_)
        refine xj_pop F dX9_freshName_50 rfl ?_
        refine xj_iload_n F 0 dX9_freshName_51 rfl ?_
        exact xj_ret F rfl dX9_freshName_52
  · refine xj_iconst F 0 dX9_freshName_7 (by decide) ?_
    exact xj_ret F rfl dX9_freshName_8
set_option maxRecDepth 20000 in
set_option maxHeartbeats 4000000 in
theorem jX9_function_100 {G : XG} {l : Launch} {d : Nat} {X : XX} (F : xF (xE G d) G X mX9_function) (hdep : 48 ≤ d) : ∀ (q0 : Nat) (x1 : Int32) (x2 : Int32) (x3 : Int32) (x4 : Int32) (m0 : XM), isa G q0 9 → xJ (xE G d) (xQ xrV G X mX9_function) G l X mX9_function 100 [(0, .ref (xad G q0)), (1, .int x1), (2, .int x2), (3, .int x3), (4, .int x4)] [] m0 (fX9_function_100 (xln G) q0 x1 x2 x3 x4 m0) := by
  intro q0 x1 x2 x3 x4 m0 hq0
  unfold fX9_function_100
  refine xj_aload_n F 0 dX9_function_100 rfl ?_
  refine xj_callVI (b := q0) (As := []) (d' := 46) F hq0 lmX9_208 rfl rfl (Nat.le_of_ble_eq_true rfl) (xfit (Nat.le_trans (Nat.le_of_ble_eq_true rfl) hdep)) dX9_function_101 (fun hT z hz => wX9_sum (xnd F) (Nat.le_refl _) hT (a0 := q0) hq0 z hz) (fun v2 m1 => ?_)
  refine xj_istore (lv' := [(5, .int v2), (0, .ref (xad G q0)), (1, .int x1), (2, .int x2), (3, .int x3), (4, .int x4)]) F dX9_function_104 (by decide) rfl ?_
  refine xj_aload_n F 1 dX9_function_106 rfl ?_
  refine xj_bipush F 59 dX9_function_107 (by decide) ?_
  refine xj_callVV (b := q0) (As := [.int 59]) (d' := 3) F hq0 lmX9_195 rfl rfl (Nat.le_of_ble_eq_true rfl) (xfit (Nat.le_trans (Nat.le_of_ble_eq_true rfl) hdep)) dX9_function_109 (fun hT z hz => wX9_must (xnd F) (Nat.le_refl _) hT (a0 := q0) (a1 := 59) hq0 z hz) (fun m3 => ?_)
  refine xj_aload_n F 1 dX9_function_112 rfl ?_
  refine xj_bipush F 125 dX9_function_113 (by decide) ?_
  refine xj_callVV (b := q0) (As := [.int 125]) (d' := 3) F hq0 lmX9_195 rfl rfl (Nat.le_of_ble_eq_true rfl) (xfit (Nat.le_trans (Nat.le_of_ble_eq_true rfl) hdep)) dX9_function_115 (fun hT z hz => wX9_must (xnd F) (Nat.le_refl _) hT (a0 := q0) (a1 := 125) hq0 z hz) (fun m4 => ?_)
  refine xj_aload_n F 1 dX9_function_118 rfl ?_
  refine xj_callVI (b := q0) (As := []) (d' := 0) F hq0 lmX9_140 rfl rfl (Nat.le_of_ble_eq_true rfl) (xfit (Nat.le_trans (Nat.le_of_ble_eq_true rfl) hdep)) dX9_function_119 (fun hT z hz => wX9_fine (xnd F) (Nat.le_refl _) hT (a0 := q0) hq0 z hz) (fun v6 m5 => ?_)
  refine xj_if_eq (tgt := 137) F dX9_function_122 (by decide) ?_ ?_
  · exact xj_retV F rfl dX9_function_137
  · refine xj_aload_n F 1 dX9_function_125 rfl ?_
    refine xj_iload_n F 2 dX9_function_126 rfl ?_
    refine xj_iconst F 4 dX9_function_127 (by decide) ?_
    refine xj_iload_n F 3 dX9_function_128 rfl ?_
    refine xj_iload F 0 dX9_function_129 rfl ?_
    refine xj_iload_n F 4 dX9_function_131 rfl ?_
    refine xj_iload F 5 dX9_function_132 rfl ?_
    refine xj_callVV (b := q0) (As := [.int x1, .int 4, .int x2, .int v2, .int x3, .int x4]) (d' := 0) F hq0 lmX9_226 rfl rfl (Nat.le_of_ble_eq_true rfl) (xfit (Nat.le_trans (Nat.le_of_ble_eq_true rfl) hdep)) dX9_function_134 (fun hT z hz => wX9_addsMember (xnd F) (Nat.le_refl _) hT (a0 := q0) (a1 := x1) (a2 := 4) (a3 := x2) (a4 := v2) (a5 := x3) (a6 := x4) hq0 z hz) (fun m7 => ?_)
    exact xj_retV F rfl dX9_function_137
set_option maxRecDepth 20000 in
set_option maxHeartbeats 4000000 in
theorem jX9_function_74 {G : XG} {l : Launch} {d : Nat} {X : XX} (F : xF (xE G d) G X mX9_function) (hdep : 48 ≤ d) : ∀ (q0 : Nat) (x1 : Int32) (x2 : Int32) (x3 : Int32) (x4 : Int32) (m0 : XM), isa G q0 9 → xJ (xE G d) (xQ xrV G X mX9_function) G l X mX9_function 74 [(0, .ref (xad G q0)), (1, .int x1), (2, .int x2), (3, .int x3), (4, .int x4)] [] m0 (fX9_function_74 (xln G) q0 x1 x2 x3 x4 m0) := by
  intro q0 x1 x2 x3 x4 m0 hq0
  unfold fX9_function_74
  refine xj_aload_n F 0 dX9_function_74 rfl ?_
  refine xj_callVI (b := q0) (As := []) (d' := 0) F hq0 lmX9_140 rfl rfl (Nat.le_of_ble_eq_true rfl) (xfit (Nat.le_trans (Nat.le_of_ble_eq_true rfl) hdep)) dX9_function_75 (fun hT z hz => wX9_fine (xnd F) (Nat.le_refl _) hT (a0 := q0) hq0 z hz) (fun v2 m1 => ?_)
  refine xj_if_eq (tgt := 100) F dX9_function_78 (by decide) ?_ ?_
  · exact jX9_function_100 F hdep q0 x1 x2 x3 x4 m1 hq0
  · refine xj_aload_n F 0 dX9_function_81 rfl ?_
    refine xj_ldcS (i := 14) F (List.mem_of_getElem? (i := 14) rfl) dX9_function_82 ?_
    refine xj_callVI (b := q0) (As := [.ref (G.1.2.1 14)]) (d' := 5) F hq0 lmX9_189 rfl rfl (Nat.le_of_ble_eq_true rfl) (xfit (Nat.le_trans (Nat.le_of_ble_eq_true rfl) hdep)) dX9_function_84 (fun hT z hz => wX9_takesWord (xnd F) (Nat.le_refl _) hT (a0 := q0) (a1 := 14) hq0 (by decide) z hz) (fun v4 m3 => ?_)
    refine xj_if_ne (tgt := 100) F dX9_function_87 (by decide) ?_ ?_
    · exact jX9_function_100 F hdep q0 x1 x2 x3 x4 m3 hq0
    · refine xj_aload_n F 0 dX9_function_90 rfl ?_
      refine xj_iconst F 1 dX9_function_91 (by decide) ?_
      refine xj_aload_n F 0 dX9_function_92 rfl ?_
      refine xj_get F hq0 lgX9_110 dX9_function_93 (fun v5 => ?_)
      refine xj_callVI (b := q0) (As := [.int 1, .int v5]) (d' := 0) F hq0 lmX9_151 rfl rfl (Nat.le_of_ble_eq_true rfl) (xfit (Nat.le_trans (Nat.le_of_ble_eq_true rfl) hdep)) dX9_function_96 (fun hT z hz => wX9_wrong (xnd F) (Nat.le_refl _) hT (a0 := q0) (a1 := 1) (a2 := v5) hq0 z hz) (fun v7 m6 => ?_)
      refine xj_pop F dX9_function_99 rfl ?_
      exact jX9_function_100 F hdep q0 x1 x2 x3 x4 m6 hq0
set_option maxRecDepth 20000 in
set_option maxHeartbeats 4000000 in
theorem jX9_function_22 {G : XG} {l : Launch} {d : Nat} {X : XX} (F : xF (xE G d) G X mX9_function) (hdep : 48 ≤ d) : ∀ (n : Nat) (q0 : Nat) (x1 : Int32) (x2 : Int32) (x3 : Int32) (x4 : Int32) (m0 : XM), isa G q0 9 → xJ (xE G d) (xQ xrV G X mX9_function) G l X mX9_function 22 [(0, .ref (xad G q0)), (1, .int x1), (2, .int x2), (3, .int x3), (4, .int x4)] [] m0 (fX9_function_22 (xln G) n q0 x1 x2 x3 x4 m0) := by
  intro n
  induction n with
  | zero => intro q0 x1 x2 x3 x4 m0 hq0; exact xj_none
  | succ n hr22 =>
    intro q0 x1 x2 x3 x4 m0 hq0
    unfold fX9_function_22
    generalize hrg22 : (fun q0 x1 x2 x3 x4 m0 => fX9_function_22 (xln G) n q0 x1 x2 x3 x4 m0) = r22
    have hr22 : ∀ (q0 : Nat) (x1 : Int32) (x2 : Int32) (x3 : Int32) (x4 : Int32) (m0 : XM), isa G q0 9 → xJ (xE G d) (xQ xrV G X mX9_function) G l X mX9_function 22 [(0, .ref (xad G q0)), (1, .int x1), (2, .int x2), (3, .int x3), (4, .int x4)] [] m0 (r22 q0 x1 x2 x3 x4 m0) := by
      subst hrg22
      exact hr22
    clear hrg22
    refine xj_eq (xv_eq _ _) ?_
    refine xj_aload_n F 0 dX9_function_22 rfl ?_
    refine xj_callVI (b := q0) (As := []) (d' := 0) F hq0 lmX9_140 rfl rfl (Nat.le_of_ble_eq_true rfl) (xfit (Nat.le_trans (Nat.le_of_ble_eq_true rfl) hdep)) dX9_function_23 (fun hT z hz => wX9_fine (xnd F) (Nat.le_refl _) hT (a0 := q0) hq0 z hz) (fun v2 m1 => ?_)
    refine xj_if_eq (tgt := 74) F dX9_function_26 (by decide) ?_ ?_
    · exact jX9_function_74 F hdep q0 x1 x2 x3 x4 m1 hq0
    · refine xj_aload_n F 0 dX9_function_29 rfl ?_
      refine xj_callVI (b := q0) (As := []) (d' := 1) F hq0 lmX9_123 rfl rfl (Nat.le_of_ble_eq_true rfl) (xfit (Nat.le_trans (Nat.le_of_ble_eq_true rfl) hdep)) dX9_function_30 (fun hT z hz => wX9_here (xnd F) (Nat.le_refl _) hT (a0 := q0) hq0 z hz) (fun v4 m3 => ?_)
      refine xj_callSI (As := [.int v4]) (d' := 0) F lmX9_159 rfl rfl (Nat.le_of_ble_eq_true rfl) (xfit (Nat.le_trans (Nat.le_of_ble_eq_true rfl) hdep)) dX9_function_33 (fun hT z hz => wX9_isBig (xnd F) (Nat.le_refl _) hT (a0 := v4)  z hz) (fun v6 m5 => ?_)
      refine xj_if_eq (tgt := 74) F dX9_function_36 (by decide) ?_ ?_
      · exact jX9_function_74 F hdep q0 x1 x2 x3 x4 m5 hq0
      · refine xj_aload_n F 0 dX9_function_39 rfl ?_
        refine xj_callVI (b := q0) (As := []) (d' := 2) F hq0 lmX9_162 rfl rfl (Nat.le_of_ble_eq_true rfl) (xfit (Nat.le_trans (Nat.le_of_ble_eq_true rfl) hdep)) dX9_function_40 (fun hT z hz => wX9_isUnitHere (xnd F) (Nat.le_refl _) hT (a0 := q0) hq0 z hz) (fun v8 m7 => ?_)
        refine xj_if_eq (tgt := 74) F dX9_function_43 (by decide) ?_ ?_
        · exact jX9_function_74 F hdep q0 x1 x2 x3 x4 m7 hq0
        · refine xj_iload_n F 3 dX9_function_46 rfl ?_
          refine xj_iconst F 4 dX9_function_47 (by decide) ?_
          refine xj_icmp_ne (tgt := 62) F dX9_function_48 (by decide) ?_ ?_
          · refine xj_aload_n F 0 dX9_function_62 rfl ?_
            refine xj_callVI (b := q0) (As := []) (d' := 47) F hq0 lmX9_221 rfl rfl (Nat.le_of_ble_eq_true rfl) (xfit (Nat.le_trans (Nat.le_of_ble_eq_true rfl) hdep)) dX9_function_63 (fun hT z hz => wX9_setHere (xnd F) (Nat.le_refl _) hT (a0 := q0) hq0 z hz) (fun v10 m9 => ?_)
            refine xj_istore (lv' := [(5, .int v10), (0, .ref (xad G q0)), (1, .int x1), (2, .int x2), (3, .int x3), (4, .int x4)]) F dX9_function_66 (by decide) rfl ?_
            refine xj_iinc F 4 1 (fun v11 => [(3, .int v11), (5, .int v10), (0, .ref (xad G q0)), (1, .int x1), (2, .int x2), (4, .int x4)]) dX9_function_68 rfl (by decide) (by decide) (fun _ => rfl) (fun v11 => ?_)
            refine xj_goto (tgt := 22) F dX9_function_71 (by decide) ?_
            refine xj_sub (lv' := [(0, .ref (xad G q0)), (1, .int x1), (2, .int x2), (3, .int v11), (4, .int x4)]) [2, 3, 4, 0, 5] rfl ?_
            exact hr22 q0 x1 x2 v11 x4 m9 hq0
          · refine xj_aload_n F 0 dX9_function_51 rfl ?_
            refine xj_iconst F 3 dX9_function_52 (by decide) ?_
            refine xj_aload_n F 0 dX9_function_53 rfl ?_
            refine xj_get F hq0 lgX9_110 dX9_function_54 (fun v12 => ?_)
            refine xj_callVI (b := q0) (As := [.int 3, .int v12]) (d' := 0) F hq0 lmX9_151 rfl rfl (Nat.le_of_ble_eq_true rfl) (xfit (Nat.le_trans (Nat.le_of_ble_eq_true rfl) hdep)) dX9_function_57 (fun hT z hz => wX9_wrong (xnd F) (Nat.le_refl _) hT (a0 := q0) (a1 := 3) (a2 := v12) hq0 z hz) (fun v14 m13 => ?_)
            refine xj_pop F dX9_function_60 rfl ?_
            exact xj_retV F rfl dX9_function_61
set_option maxRecDepth 20000 in
set_option maxHeartbeats 4000000 in
theorem wX9_function {G : XG} {l : Launch} {d : Nat} (hn : xN G) (hdep : 48 ≤ d) {m0 : XM} (hT : xT G m0) {a0 : Nat} {a1 : Int32} (ha0 : isa G a0 9) : ∀ z, fX9_function (xln G) a0 a1 m0 = some z → xMet G l mX9_function d [.ref (xad G a0), .int a1] m0 (xrV z) := by
  refine xMet_of (by decide +kernel) hn hT (Nat.le_of_ble_eq_true rfl) (fun X F => ?_)
  refine xj_sub (lv' := [(0, .ref (xad G a0)), (1, .int a1)]) [0, 1] rfl ?_
  unfold fX9_function
  refine xj_aload_n F 0 dX9_function_0 rfl ?_
  refine xj_iload_n F 1 dX9_function_1 rfl ?_
  refine xj_callVI (b := a0) (As := [.int a1]) (d' := 3) F ha0 lmX9_218 rfl rfl (Nat.le_of_ble_eq_true rfl) (xfit (Nat.le_trans (Nat.le_of_ble_eq_true rfl) hdep)) dX9_function_2 (fun hT z hz => wX9_freshName (xnd F) (Nat.le_refl _) hT (a0 := a0) (a1 := a1) ha0 z hz) (fun v2 m1 => ?_)
  refine xj_istore_n (lv' := [(2, .int v2), (0, .ref (xad G a0)), (1, .int a1)]) F dX9_function_5 (by decide) rfl ?_
  refine xj_aload_n F 1 dX9_function_6 rfl ?_
  refine xj_bipush F 123 dX9_function_7 (by decide) ?_
  refine xj_callVV (b := a0) (As := [.int 123]) (d' := 3) F ha0 lmX9_195 rfl rfl (Nat.le_of_ble_eq_true rfl) (xfit (Nat.le_trans (Nat.le_of_ble_eq_true rfl) hdep)) dX9_function_9 (fun hT z hz => wX9_must (xnd F) (Nat.le_refl _) hT (a0 := a0) (a1 := 123) ha0 z hz) (fun m3 => ?_)
  refine xj_iconst F 0 dX9_function_12 (by decide) ?_
  refine xj_istore_n (lv' := [(3, .int 0), (2, .int v2), (0, .ref (xad G a0)), (1, .int a1)]) F dX9_function_13 (by decide) rfl ?_
  refine xj_aload_n F 2 dX9_function_14 rfl ?_
  refine xj_getR F ha0 lgX9_23 dX9_function_15 (fun u4 hu4 => ?_)
  refine xj_iconst F 2 dX9_function_18 (by decide) ?_
  refine xj_iald F hu4 dX9_function_19 (fun v5 => ?_)
  refine xj_istore (lv' := [(4, .int v5), (3, .int 0), (2, .int v2), (0, .ref (xad G a0)), (1, .int a1)]) F dX9_function_20 (by decide) rfl ?_
  refine xj_sub (lv' := [(0, .ref (xad G a0)), (1, .int a1), (2, .int v2), (3, .int 0), (4, .int v5)]) [3, 4, 2, 1, 0] rfl ?_
  exact jX9_function_22 F hdep XF a0 a1 v2 0 v5 m3 ha0
set_option maxRecDepth 20000 in
set_option maxHeartbeats 4000000 in
theorem jX9_members_148 {G : XG} {l : Launch} {d : Nat} {X : XX} (F : xF (xE G d) G X mX9_members) (hdep : 49 ≤ d) : ∀ (m0 : XM), xJ (xE G d) (xQ xrV G X mX9_members) G l X mX9_members 148 [] [] m0 (fX9_members_148 (xln G)  m0) := by
  intro m0
  unfold fX9_members_148
  refine xj_goto (tgt := 300) F dX9_members_148 (by decide) ?_
  exact xj_retV F rfl dX9_members_300
set_option maxRecDepth 20000 in
set_option maxHeartbeats 4000000 in
theorem jX9_members_211 {G : XG} {l : Launch} {d : Nat} {X : XX} (F : xF (xE G d) G X mX9_members) (hdep : 49 ≤ d) : ∀ (m0 : XM), xJ (xE G d) (xQ xrV G X mX9_members) G l X mX9_members 211 [] [] m0 (fX9_members_211 (xln G)  m0) := by
  intro m0
  unfold fX9_members_211
  refine xj_goto (tgt := 300) F dX9_members_211 (by decide) ?_
  exact xj_retV F rfl dX9_members_300
set_option maxRecDepth 20000 in
set_option maxHeartbeats 4000000 in
theorem jX9_members_184 {G : XG} {l : Launch} {d : Nat} {X : XX} (F : xF (xE G d) G X mX9_members) (hdep : 49 ≤ d) : ∀ (q0 : Nat) (x1 : Int32) (x4 : Int32) (s0 : Int32) (m0 : XM), isa G q0 9 → xJ (xE G d) (xQ xrV G X mX9_members) G l X mX9_members 184 [(0, .ref (xad G q0)), (1, .int x1), (4, .int x4)] [.int s0] m0 (fX9_members_184 (xln G) q0 x1 x4 s0 m0) := by
  intro q0 x1 x4 s0 m0 hq0
  unfold fX9_members_184
  refine xj_istore (lv' := [(5, .int s0), (0, .ref (xad G q0)), (1, .int x1), (4, .int x4)]) F dX9_members_184 (by decide) rfl ?_
  refine xj_aload_n F 1 dX9_members_186 rfl ?_
  refine xj_bipush F 59 dX9_members_187 (by decide) ?_
  refine xj_callVV (b := q0) (As := [.int 59]) (d' := 3) F hq0 lmX9_195 rfl rfl (Nat.le_of_ble_eq_true rfl) (xfit (Nat.le_trans (Nat.le_of_ble_eq_true rfl) hdep)) dX9_members_189 (fun hT z hz => wX9_must (xnd F) (Nat.le_refl _) hT (a0 := q0) (a1 := 59) hq0 z hz) (fun m1 => ?_)
  refine xj_aload_n F 1 dX9_members_192 rfl ?_
  refine xj_callVI (b := q0) (As := []) (d' := 0) F hq0 lmX9_140 rfl rfl (Nat.le_of_ble_eq_true rfl) (xfit (Nat.le_trans (Nat.le_of_ble_eq_true rfl) hdep)) dX9_members_193 (fun hT z hz => wX9_fine (xnd F) (Nat.le_refl _) hT (a0 := q0) hq0 z hz) (fun v3 m2 => ?_)
  refine xj_if_eq (tgt := 211) F dX9_members_196 (by decide) ?_ ?_
  · refine xj_sub (lv' := []) [] rfl ?_
    exact jX9_members_211 F hdep m2
  · refine xj_aload_n F 1 dX9_members_199 rfl ?_
    refine xj_iload_n F 2 dX9_members_200 rfl ?_
    refine xj_iconst F 1 dX9_members_201 (by decide) ?_
    refine xj_iload F 3 dX9_members_202 rfl ?_
    refine xj_iload F 0 dX9_members_204 rfl ?_
    refine xj_iconst F 0 dX9_members_206 (by decide) ?_
    refine xj_iconst F 0 dX9_members_207 (by decide) ?_
    refine xj_callVV (b := q0) (As := [.int x1, .int 1, .int x4, .int s0, .int 0, .int 0]) (d' := 0) F hq0 lmX9_226 rfl rfl (Nat.le_of_ble_eq_true rfl) (xfit (Nat.le_trans (Nat.le_of_ble_eq_true rfl) hdep)) dX9_members_208 (fun hT z hz => wX9_addsMember (xnd F) (Nat.le_refl _) hT (a0 := q0) (a1 := x1) (a2 := 1) (a3 := x4) (a4 := s0) (a5 := 0) (a6 := 0) hq0 z hz) (fun m4 => ?_)
    refine xj_sub (lv' := []) [] rfl ?_
    exact jX9_members_211 F hdep m4
set_option maxRecDepth 20000 in
set_option maxHeartbeats 4000000 in
theorem jX9_members_247 {G : XG} {l : Launch} {d : Nat} {X : XX} (F : xF (xE G d) G X mX9_members) (hdep : 49 ≤ d) : ∀ (m0 : XM), xJ (xE G d) (xQ xrV G X mX9_members) G l X mX9_members 247 [] [] m0 (fX9_members_247 (xln G)  m0) := by
  intro m0
  unfold fX9_members_247
  refine xj_goto (tgt := 300) F dX9_members_247 (by decide) ?_
  exact xj_retV F rfl dX9_members_300
set_option maxRecDepth 20000 in
set_option maxHeartbeats 4000000 in
theorem jX9_members_62 {G : XG} {l : Launch} {d : Nat} {X : XX} (F : xF (xE G d) G X mX9_members) (hdep : 49 ≤ d) : ∀ (q0 : Nat) (x1 : Int32) (x2 : Int32) (s0 : Int32) (m0 : XM), isa G q0 9 → xJ (xE G d) (xQ xrV G X mX9_members) G l X mX9_members 62 [(0, .ref (xad G q0)), (1, .int x1), (2, .int x2)] [.int s0] m0 (fX9_members_62 (xln G) q0 x1 x2 s0 m0) := by
  intro q0 x1 x2 s0 m0 hq0
  unfold fX9_members_62
  refine xj_istore_n (lv' := [(3, .int s0), (0, .ref (xad G q0)), (1, .int x1), (2, .int x2)]) F dX9_members_62 (by decide) rfl ?_
  refine xj_iload_n F 0 dX9_members_63 rfl ?_
  refine xj_if_ne (tgt := 78) F dX9_members_64 (by decide) ?_ ?_
  · refine xj_iload_n F 3 dX9_members_78 rfl ?_
    refine xj_bipush F 12 dX9_members_79 (by decide) ?_
    refine xj_icmp_ne (tgt := 95) F dX9_members_81 (by decide) ?_ ?_
    · refine xj_aload_n F 1 dX9_members_95 rfl ?_
      refine xj_ldcS (i := 10) F (List.mem_of_getElem? (i := 10) rfl) dX9_members_96 ?_
      refine xj_callVI (b := q0) (As := [.ref (G.1.2.1 10)]) (d' := 5) F hq0 lmX9_189 rfl rfl (Nat.le_of_ble_eq_true rfl) (xfit (Nat.le_trans (Nat.le_of_ble_eq_true rfl) hdep)) dX9_members_98 (fun hT z hz => wX9_takesWord (xnd F) (Nat.le_refl _) hT (a0 := q0) (a1 := 10) hq0 (by decide) z hz) (fun v2 m1 => ?_)
      refine xj_if_eq (tgt := 151) F dX9_members_101 (by decide) ?_ ?_
      · refine xj_aload_n F 1 dX9_members_151 rfl ?_
        refine xj_ldcS (i := 11) F (List.mem_of_getElem? (i := 11) rfl) dX9_members_152 ?_
        refine xj_callVI (b := q0) (As := [.ref (G.1.2.1 11)]) (d' := 5) F hq0 lmX9_189 rfl rfl (Nat.le_of_ble_eq_true rfl) (xfit (Nat.le_trans (Nat.le_of_ble_eq_true rfl) hdep)) dX9_members_154 (fun hT z hz => wX9_takesWord (xnd F) (Nat.le_refl _) hT (a0 := q0) (a1 := 11) hq0 (by decide) z hz) (fun v4 m3 => ?_)
        refine xj_if_eq (tgt := 214) F dX9_members_157 (by decide) ?_ ?_
        · refine xj_aload_n F 1 dX9_members_214 rfl ?_
          refine xj_ldcS (i := 12) F (List.mem_of_getElem? (i := 12) rfl) dX9_members_215 ?_
          refine xj_callVI (b := q0) (As := [.ref (G.1.2.1 12)]) (d' := 5) F hq0 lmX9_189 rfl rfl (Nat.le_of_ble_eq_true rfl) (xfit (Nat.le_trans (Nat.le_of_ble_eq_true rfl) hdep)) dX9_members_217 (fun hT z hz => wX9_takesWord (xnd F) (Nat.le_refl _) hT (a0 := q0) (a1 := 12) hq0 (by decide) z hz) (fun v6 m5 => ?_)
          refine xj_if_eq (tgt := 250) F dX9_members_220 (by decide) ?_ ?_
          · refine xj_aload_n F 1 dX9_members_250 rfl ?_
            refine xj_ldcS (i := 13) F (List.mem_of_getElem? (i := 13) rfl) dX9_members_251 ?_
            refine xj_callVI (b := q0) (As := [.ref (G.1.2.1 13)]) (d' := 5) F hq0 lmX9_189 rfl rfl (Nat.le_of_ble_eq_true rfl) (xfit (Nat.le_trans (Nat.le_of_ble_eq_true rfl) hdep)) dX9_members_253 (fun hT z hz => wX9_takesWord (xnd F) (Nat.le_refl _) hT (a0 := q0) (a1 := 13) hq0 (by decide) z hz) (fun v8 m7 => ?_)
            refine xj_if_eq (tgt := 267) F dX9_members_256 (by decide) ?_ ?_
            · refine xj_aload_n F 1 dX9_members_267 rfl ?_
              refine xj_callVI (b := q0) (As := []) (d' := 47) F hq0 lmX9_221 rfl rfl (Nat.le_of_ble_eq_true rfl) (xfit (Nat.le_trans (Nat.le_of_ble_eq_true rfl) hdep)) dX9_members_268 (fun hT z hz => wX9_setHere (xnd F) (Nat.le_refl _) hT (a0 := q0) hq0 z hz) (fun v10 m9 => ?_)
              refine xj_istore (lv' := [(4, .int v10), (3, .int s0), (0, .ref (xad G q0)), (1, .int x1), (2, .int x2)]) F dX9_members_271 (by decide) rfl ?_
              refine xj_aload_n F 2 dX9_members_273 rfl ?_
              refine xj_callVI (b := q0) (As := []) (d' := 0) F hq0 lmX9_140 rfl rfl (Nat.le_of_ble_eq_true rfl) (xfit (Nat.le_trans (Nat.le_of_ble_eq_true rfl) hdep)) dX9_members_274 (fun hT z hz => wX9_fine (xnd F) (Nat.le_refl _) hT (a0 := q0) hq0 z hz) (fun v12 m11 => ?_)
              refine xj_if_eq (tgt := 300) F dX9_members_277 (by decide) ?_ ?_
              · exact xj_retV F rfl dX9_members_300
              · refine xj_aload_n F 2 dX9_members_280 rfl ?_
                refine xj_iload_n F 3 dX9_members_281 rfl ?_
                refine xj_iconst F 3 dX9_members_282 (by decide) ?_
                refine xj_aload_n F 2 dX9_members_283 rfl ?_
                refine xj_getR F hq0 lgX9_23 dX9_members_284 (fun u13 hu13 => ?_)
                refine xj_iload F 0 dX9_members_287 rfl ?_
                refine xj_iconst F 1 dX9_members_289 (by decide) ?_
                refine xj_callSI (As := [.ref (xad G u13), .int v10, .int 1]) (d' := 0) F lmX9_244 rfl rfl (Nat.le_of_ble_eq_true rfl) (xfit (Nat.le_trans (Nat.le_of_ble_eq_true rfl) hdep)) dX9_members_290 (fun hT z hz => wX9_ofAct (xnd F) (Nat.le_refl _) hT (a0 := u13) (a1 := v10) (a2 := 1) hu13 z hz) (fun v15 m14 => ?_)
                refine xj_iload F 0 dX9_members_293 rfl ?_
                refine xj_iconst F 0 dX9_members_295 (by decide) ?_
                refine xj_iconst F 0 dX9_members_296 (by decide) ?_
                refine xj_callVV (b := q0) (As := [.int x1, .int 3, .int v15, .int v10, .int 0, .int 0]) (d' := 0) F hq0 lmX9_226 rfl rfl (Nat.le_of_ble_eq_true rfl) (xfit (Nat.le_trans (Nat.le_of_ble_eq_true rfl) hdep)) dX9_members_297 (fun hT z hz => wX9_addsMember (xnd F) (Nat.le_refl _) hT (a0 := q0) (a1 := x1) (a2 := 3) (a3 := v15) (a4 := v10) (a5 := 0) (a6 := 0) hq0 z hz) (fun m16 => ?_)
                exact xj_retV F rfl dX9_members_300
            · refine xj_aload_n F 1 dX9_members_259 rfl ?_
              refine xj_iload_n F 2 dX9_members_260 rfl ?_
              refine xj_callVV (b := q0) (As := [.int x1]) (d' := 48) F hq0 lmX9_241 rfl rfl (Nat.le_of_ble_eq_true rfl) (xfit (Nat.le_trans (Nat.le_of_ble_eq_true rfl) hdep)) dX9_members_261 (fun hT z hz => wX9_function (xnd F) (Nat.le_refl _) hT (a0 := q0) (a1 := x1) hq0 z hz) (fun m17 => ?_)
              refine xj_goto (tgt := 300) F dX9_members_264 (by decide) ?_
              exact xj_retV F rfl dX9_members_300
          · refine xj_aload_n F 1 dX9_members_223 rfl ?_
            refine xj_callVI (b := q0) (As := []) (d' := 47) F hq0 lmX9_238 rfl rfl (Nat.le_of_ble_eq_true rfl) (xfit (Nat.le_trans (Nat.le_of_ble_eq_true rfl) hdep)) dX9_members_224 (fun hT z hz => wX9_doHere (xnd F) (Nat.le_refl _) hT (a0 := q0) hq0 z hz) (fun v19 m18 => ?_)
            refine xj_istore (lv' := [(4, .int v19), (3, .int s0), (0, .ref (xad G q0)), (1, .int x1), (2, .int x2)]) F dX9_members_227 (by decide) rfl ?_
            refine xj_aload_n F 2 dX9_members_229 rfl ?_
            refine xj_callVI (b := q0) (As := []) (d' := 0) F hq0 lmX9_140 rfl rfl (Nat.le_of_ble_eq_true rfl) (xfit (Nat.le_trans (Nat.le_of_ble_eq_true rfl) hdep)) dX9_members_230 (fun hT z hz => wX9_fine (xnd F) (Nat.le_refl _) hT (a0 := q0) hq0 z hz) (fun v21 m20 => ?_)
            refine xj_if_eq (tgt := 247) F dX9_members_233 (by decide) ?_ ?_
            · refine xj_sub (lv' := []) [] rfl ?_
              exact jX9_members_247 F hdep m20
            · refine xj_aload_n F 2 dX9_members_236 rfl ?_
              refine xj_iload_n F 3 dX9_members_237 rfl ?_
              refine xj_iconst F 2 dX9_members_238 (by decide) ?_
              refine xj_iconst F (-1) dX9_members_239 (by decide) ?_
              refine xj_iload F 0 dX9_members_240 rfl ?_
              refine xj_iconst F 0 dX9_members_242 (by decide) ?_
              refine xj_iconst F 0 dX9_members_243 (by decide) ?_
              refine xj_callVV (b := q0) (As := [.int x1, .int 2, .int (-1), .int v19, .int 0, .int 0]) (d' := 0) F hq0 lmX9_226 rfl rfl (Nat.le_of_ble_eq_true rfl) (xfit (Nat.le_trans (Nat.le_of_ble_eq_true rfl) hdep)) dX9_members_244 (fun hT z hz => wX9_addsMember (xnd F) (Nat.le_refl _) hT (a0 := q0) (a1 := x1) (a2 := 2) (a3 := (-1)) (a4 := v19) (a5 := 0) (a6 := 0) hq0 z hz) (fun m22 => ?_)
              refine xj_sub (lv' := []) [] rfl ?_
              exact jX9_members_247 F hdep m22
        · refine xj_aload_n F 1 dX9_members_160 rfl ?_
          refine xj_iload_n F 2 dX9_members_161 rfl ?_
          refine xj_callVI (b := q0) (As := [.int x1]) (d' := 3) F hq0 lmX9_218 rfl rfl (Nat.le_of_ble_eq_true rfl) (xfit (Nat.le_trans (Nat.le_of_ble_eq_true rfl) hdep)) dX9_members_162 (fun hT z hz => wX9_freshName (xnd F) (Nat.le_refl _) hT (a0 := q0) (a1 := x1) hq0 z hz) (fun v24 m23 => ?_)
          refine xj_istore (lv' := [(4, .int v24), (3, .int s0), (0, .ref (xad G q0)), (1, .int x1), (2, .int x2)]) F dX9_members_165 (by decide) rfl ?_
          refine xj_aload_n F 2 dX9_members_167 rfl ?_
          refine xj_bipush F 61 dX9_members_168 (by decide) ?_
          refine xj_callVI (b := q0) (As := [.int 61]) (d' := 2) F hq0 lmX9_148 rfl rfl (Nat.le_of_ble_eq_true rfl) (xfit (Nat.le_trans (Nat.le_of_ble_eq_true rfl) hdep)) dX9_members_170 (fun hT z hz => wX9_takesSign (xnd F) (Nat.le_refl _) hT (a0 := q0) (a1 := 61) hq0 z hz) (fun v26 m25 => ?_)
          refine xj_if_eq (tgt := 183) F dX9_members_173 (by decide) ?_ ?_
          · refine xj_iconst F (-1) dX9_members_183 (by decide) ?_
            refine xj_sub (lv' := [(0, .ref (xad G q0)), (1, .int x1), (4, .int v24)]) [2, 3, 0] rfl ?_
            exact jX9_members_184 F hdep q0 x1 v24 (-1) m25 hq0
          · refine xj_aload_n F 2 dX9_members_176 rfl ?_
            refine xj_callVI (b := q0) (As := []) (d' := 46) F hq0 lmX9_208 rfl rfl (Nat.le_of_ble_eq_true rfl) (xfit (Nat.le_trans (Nat.le_of_ble_eq_true rfl) hdep)) dX9_members_177 (fun hT z hz => wX9_sum (xnd F) (Nat.le_refl _) hT (a0 := q0) hq0 z hz) (fun v28 m27 => ?_)
            refine xj_goto (tgt := 184) F dX9_members_180 (by decide) ?_
            refine xj_sub (lv' := [(0, .ref (xad G q0)), (1, .int x1), (4, .int v24)]) [2, 3, 0] rfl ?_
            exact jX9_members_184 F hdep q0 x1 v24 v28 m27 hq0
      · refine xj_aload_n F 1 dX9_members_104 rfl ?_
        refine xj_iload_n F 2 dX9_members_105 rfl ?_
        refine xj_callVI (b := q0) (As := [.int x1]) (d' := 3) F hq0 lmX9_218 rfl rfl (Nat.le_of_ble_eq_true rfl) (xfit (Nat.le_trans (Nat.le_of_ble_eq_true rfl) hdep)) dX9_members_106 (fun hT z hz => wX9_freshName (xnd F) (Nat.le_refl _) hT (a0 := q0) (a1 := x1) hq0 z hz) (fun v30 m29 => ?_)
        refine xj_istore (lv' := [(4, .int v30), (3, .int s0), (0, .ref (xad G q0)), (1, .int x1), (2, .int x2)]) F dX9_members_109 (by decide) rfl ?_
        refine xj_aload_n F 2 dX9_members_111 rfl ?_
        refine xj_bipush F 61 dX9_members_112 (by decide) ?_
        refine xj_callVV (b := q0) (As := [.int 61]) (d' := 3) F hq0 lmX9_195 rfl rfl (Nat.le_of_ble_eq_true rfl) (xfit (Nat.le_trans (Nat.le_of_ble_eq_true rfl) hdep)) dX9_members_114 (fun hT z hz => wX9_must (xnd F) (Nat.le_refl _) hT (a0 := q0) (a1 := 61) hq0 z hz) (fun m31 => ?_)
        refine xj_aload_n F 2 dX9_members_117 rfl ?_
        refine xj_callVI (b := q0) (As := []) (d' := 2) F hq0 lmX9_182 rfl rfl (Nat.le_of_ble_eq_true rfl) (xfit (Nat.le_trans (Nat.le_of_ble_eq_true rfl) hdep)) dX9_members_118 (fun hT z hz => wX9_numberHere (xnd F) (Nat.le_refl _) hT (a0 := q0) hq0 z hz) (fun v33 m32 => ?_)
        refine xj_istore (lv' := [(5, .int v33), (4, .int v30), (3, .int s0), (0, .ref (xad G q0)), (1, .int x1), (2, .int x2)]) F dX9_members_121 (by decide) rfl ?_
        refine xj_aload_n F 3 dX9_members_123 rfl ?_
        refine xj_bipush F 59 dX9_members_124 (by decide) ?_
        refine xj_callVV (b := q0) (As := [.int 59]) (d' := 3) F hq0 lmX9_195 rfl rfl (Nat.le_of_ble_eq_true rfl) (xfit (Nat.le_trans (Nat.le_of_ble_eq_true rfl) hdep)) dX9_members_126 (fun hT z hz => wX9_must (xnd F) (Nat.le_refl _) hT (a0 := q0) (a1 := 59) hq0 z hz) (fun m34 => ?_)
        refine xj_aload_n F 3 dX9_members_129 rfl ?_
        refine xj_callVI (b := q0) (As := []) (d' := 0) F hq0 lmX9_140 rfl rfl (Nat.le_of_ble_eq_true rfl) (xfit (Nat.le_trans (Nat.le_of_ble_eq_true rfl) hdep)) dX9_members_130 (fun hT z hz => wX9_fine (xnd F) (Nat.le_refl _) hT (a0 := q0) hq0 z hz) (fun v36 m35 => ?_)
        refine xj_if_eq (tgt := 148) F dX9_members_133 (by decide) ?_ ?_
        · refine xj_sub (lv' := []) [] rfl ?_
          exact jX9_members_148 F hdep m35
        · refine xj_aload_n F 3 dX9_members_136 rfl ?_
          refine xj_iload_n F 4 dX9_members_137 rfl ?_
          refine xj_iconst F 0 dX9_members_138 (by decide) ?_
          refine xj_iload F 1 dX9_members_139 rfl ?_
          refine xj_iload F 0 dX9_members_141 rfl ?_
          refine xj_iconst F 0 dX9_members_143 (by decide) ?_
          refine xj_iconst F 0 dX9_members_144 (by decide) ?_
          refine xj_callVV (b := q0) (As := [.int x1, .int 0, .int v30, .int v33, .int 0, .int 0]) (d' := 0) F hq0 lmX9_226 rfl rfl (Nat.le_of_ble_eq_true rfl) (xfit (Nat.le_trans (Nat.le_of_ble_eq_true rfl) hdep)) dX9_members_145 (fun hT z hz => wX9_addsMember (xnd F) (Nat.le_refl _) hT (a0 := q0) (a1 := x1) (a2 := 0) (a3 := v30) (a4 := v33) (a5 := 0) (a6 := 0) hq0 z hz) (fun m37 => ?_)
          refine xj_sub (lv' := []) [] rfl ?_
          exact jX9_members_148 F hdep m37
    · refine xj_aload_n F 1 dX9_members_84 rfl ?_
      refine xj_iconst F 3 dX9_members_85 (by decide) ?_
      refine xj_aload_n F 1 dX9_members_86 rfl ?_
      refine xj_get F hq0 lgX9_110 dX9_members_87 (fun v38 => ?_)
      refine xj_callVI (b := q0) (As := [.int 3, .int v38]) (d' := 0) F hq0 lmX9_151 rfl rfl (Nat.le_of_ble_eq_true rfl) (xfit (Nat.le_trans (Nat.le_of_ble_eq_true rfl) hdep)) dX9_members_90 (fun hT z hz => wX9_wrong (xnd F) (Nat.le_refl _) hT (a0 := q0) (a1 := 3) (a2 := v38) hq0 z hz) (fun v40 m39 => ?_)
      refine xj_pop F dX9_members_93 rfl ?_
      exact xj_retV F rfl dX9_members_94
  · refine xj_aload_n F 1 dX9_members_67 rfl ?_
    refine xj_iconst F 1 dX9_members_68 (by decide) ?_
    refine xj_aload_n F 1 dX9_members_69 rfl ?_
    refine xj_get F hq0 lgX9_110 dX9_members_70 (fun v41 => ?_)
    refine xj_callVI (b := q0) (As := [.int 1, .int v41]) (d' := 0) F hq0 lmX9_151 rfl rfl (Nat.le_of_ble_eq_true rfl) (xfit (Nat.le_trans (Nat.le_of_ble_eq_true rfl) hdep)) dX9_members_73 (fun hT z hz => wX9_wrong (xnd F) (Nat.le_refl _) hT (a0 := q0) (a1 := 1) (a2 := v41) hq0 z hz) (fun v43 m42 => ?_)
    refine xj_pop F dX9_members_76 rfl ?_
    exact xj_retV F rfl dX9_members_77
