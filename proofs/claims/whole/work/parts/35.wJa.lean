set_option maxRecDepth 20000 in
set_option maxHeartbeats 4000000 in
theorem wJ9_min_7cf53 {G : XG} {l : Launch} {d : Nat} (hn : xN G) (hdep : 0 ≤ d) {m0 : XM} (hT : xT G m0) {a0 : Int32} {a1 : Int32} : ∀ z, fJ9_min_7cf53 (xln G) a0 a1 m0 = some z → xMet G l mJ9_min_7cf53 d [.int a0, .int a1] m0 (xrI z) := by
  refine xMet_of (by decide +kernel) hn hT (Nat.le_of_ble_eq_true rfl) (fun X F => ?_)
  refine xj_sub (lv' := [(0, .int a0), (1, .int a1)]) [0, 1] rfl ?_
  unfold fJ9_min_7cf53
  refine xj_iload_n F 0 dJ9_min_7cf53_0 rfl ?_
  refine xj_iload_n F 1 dJ9_min_7cf53_1 rfl ?_
  refine xj_icmp_gt (tgt := 9) F dJ9_min_7cf53_2 (by decide) ?_ ?_
  · refine xj_iload_n F 1 dJ9_min_7cf53_9 rfl ?_
    exact xj_ret F rfl dJ9_min_7cf53_10
  · refine xj_iload_n F 0 dJ9_min_7cf53_5 rfl ?_
    refine xj_goto (tgt := 10) F dJ9_min_7cf53_6 (by decide) ?_
    exact xj_ret F rfl dJ9_min_7cf53_10
set_option maxRecDepth 20000 in
set_option maxHeartbeats 4000000 in
theorem jJ7_fill_53178_5 {G : XG} {l : Launch} {d : Nat} {X : XX} (F : xF (xE G d) G X mJ7_fill_53178) (hdep : 0 ≤ d) : ∀ (n : Nat) (q0 : Nat) (x1 : Int32) (x2 : Int32) (x3 : Int32) (m0 : XM), isa G q0 10 → xJ (xE G d) (xQ xrV G X mJ7_fill_53178) G l X mJ7_fill_53178 5 [(0, .ref (xad G q0)), (1, .int x1), (2, .int x2), (3, .int x3)] [] m0 (fJ7_fill_53178_5 (xln G) n q0 x1 x2 x3 m0) := by
  intro n
  induction n with
  | zero => intro q0 x1 x2 x3 m0 hq0; exact xj_none
  | succ n hr5 =>
    intro q0 x1 x2 x3 m0 hq0
    unfold fJ7_fill_53178_5
    generalize hrg5 : (fun q0 x1 x2 x3 m0 => fJ7_fill_53178_5 (xln G) n q0 x1 x2 x3 m0) = r5
    have hr5 : ∀ (q0 : Nat) (x1 : Int32) (x2 : Int32) (x3 : Int32) (m0 : XM), isa G q0 10 → xJ (xE G d) (xQ xrV G X mJ7_fill_53178) G l X mJ7_fill_53178 5 [(0, .ref (xad G q0)), (1, .int x1), (2, .int x2), (3, .int x3)] [] m0 (r5 q0 x1 x2 x3 m0) := by
      subst hrg5
      exact hr5
    clear hrg5
    refine xj_eq (xv_eq _ _) ?_
    refine xj_iload_n F 2 dJ7_fill_53178_5 rfl ?_
    refine xj_iload_n F 3 dJ7_fill_53178_6 rfl ?_
    refine xj_icmp_ge (tgt := 20) F dJ7_fill_53178_7 (by decide) ?_ ?_
    · exact xj_retV F rfl dJ7_fill_53178_20
    · refine xj_aload_n F 0 dJ7_fill_53178_10 rfl ?_
      refine xj_iload_n F 2 dJ7_fill_53178_11 rfl ?_
      refine xj_iload_n F 1 dJ7_fill_53178_12 rfl ?_
      refine xj_iast F hq0 dJ7_fill_53178_13 (fun m1 => ?_)
      refine xj_iinc F 2 1 (fun v2 => [(2, .int v2), (0, .ref (xad G q0)), (1, .int x1), (3, .int x3)]) dJ7_fill_53178_14 rfl (by decide) (by decide) (fun _ => rfl) (fun v2 => ?_)
      refine xj_goto (tgt := 5) F dJ7_fill_53178_17 (by decide) ?_
      refine xj_sub (lv' := [(0, .ref (xad G q0)), (1, .int x1), (2, .int v2), (3, .int x3)]) [1, 2, 0, 3] rfl ?_
      exact hr5 q0 x1 v2 x3 m1 hq0
set_option maxRecDepth 20000 in
set_option maxHeartbeats 4000000 in
theorem wJ7_fill_53178 {G : XG} {l : Launch} {d : Nat} (hn : xN G) (hdep : 0 ≤ d) {m0 : XM} (hT : xT G m0) {a0 : Nat} {a1 : Int32} (ha0 : isa G a0 10) : ∀ z, fJ7_fill_53178 (xln G) a0 a1 m0 = some z → xMet G l mJ7_fill_53178 d [.ref (xad G a0), .int a1] m0 (xrV z) := by
  refine xMet_of (by decide +kernel) hn hT (Nat.le_of_ble_eq_true rfl) (fun X F => ?_)
  refine xj_sub (lv' := [(0, .ref (xad G a0)), (1, .int a1)]) [0, 1] rfl ?_
  unfold fJ7_fill_53178
  refine xj_iconst F 0 dJ7_fill_53178_0 (by decide) ?_
  refine xj_istore_n (lv' := [(2, .int 0), (0, .ref (xad G a0)), (1, .int a1)]) F dJ7_fill_53178_1 (by decide) rfl ?_
  refine xj_aload_n F 1 dJ7_fill_53178_2 rfl ?_
  refine xj_alen F ha0 (by decide) dJ7_fill_53178_3 (fun v1 => ?_)
  refine xj_istore_n (lv' := [(3, .int v1), (2, .int 0), (0, .ref (xad G a0)), (1, .int a1)]) F dJ7_fill_53178_4 (by decide) rfl ?_
  refine xj_sub (lv' := [(0, .ref (xad G a0)), (1, .int a1), (2, .int 0), (3, .int v1)]) [2, 3, 1, 0] rfl ?_
  exact jJ7_fill_53178_5 F hdep XF a0 a1 0 v1 m0 ha0
set_option maxRecDepth 20000 in
set_option maxHeartbeats 4000000 in
theorem jJ7_fill_d0a16_6 {G : XG} {l : Launch} {d : Nat} {X : XX} (F : xF (xE G d) G X mJ7_fill_d0a16) (hdep : 0 ≤ d) : ∀ (n : Nat) (q0 : Nat) (x1 : Int64) (x3 : Int32) (x4 : Int32) (m0 : XM), isa G q0 11 → xJ (xE G d) (xQ xrV G X mJ7_fill_d0a16) G l X mJ7_fill_d0a16 6 [(0, .ref (xad G q0)), (1, .long x1), (3, .int x3), (4, .int x4)] [] m0 (fJ7_fill_d0a16_6 (xln G) n q0 x1 x3 x4 m0) := by
  intro n
  induction n with
  | zero => intro q0 x1 x3 x4 m0 hq0; exact xj_none
  | succ n hr6 =>
    intro q0 x1 x3 x4 m0 hq0
    unfold fJ7_fill_d0a16_6
    generalize hrg6 : (fun q0 x1 x3 x4 m0 => fJ7_fill_d0a16_6 (xln G) n q0 x1 x3 x4 m0) = r6
    have hr6 : ∀ (q0 : Nat) (x1 : Int64) (x3 : Int32) (x4 : Int32) (m0 : XM), isa G q0 11 → xJ (xE G d) (xQ xrV G X mJ7_fill_d0a16) G l X mJ7_fill_d0a16 6 [(0, .ref (xad G q0)), (1, .long x1), (3, .int x3), (4, .int x4)] [] m0 (r6 q0 x1 x3 x4 m0) := by
      subst hrg6
      exact hr6
    clear hrg6
    refine xj_eq (xv_eq _ _) ?_
    refine xj_iload_n F 2 dJ7_fill_d0a16_6 rfl ?_
    refine xj_iload F 3 dJ7_fill_d0a16_7 rfl ?_
    refine xj_icmp_ge (tgt := 22) F dJ7_fill_d0a16_9 (by decide) ?_ ?_
    · exact xj_retV F rfl dJ7_fill_d0a16_22
    · refine xj_aload_n F 0 dJ7_fill_d0a16_12 rfl ?_
      refine xj_iload_n F 2 dJ7_fill_d0a16_13 rfl ?_
      refine xj_lload_n F 1 dJ7_fill_d0a16_14 rfl ?_
      refine xj_last F hq0 dJ7_fill_d0a16_15 (fun m1 => ?_)
      refine xj_iinc F 2 1 (fun v2 => [(3, .int v2), (0, .ref (xad G q0)), (1, .long x1), (4, .int x4)]) dJ7_fill_d0a16_16 rfl (by decide) (by decide) (fun _ => rfl) (fun v2 => ?_)
      refine xj_goto (tgt := 6) F dJ7_fill_d0a16_19 (by decide) ?_
      refine xj_sub (lv' := [(0, .ref (xad G q0)), (1, .long x1), (3, .int v2), (4, .int x4)]) [1, 2, 0, 3] rfl ?_
      exact hr6 q0 x1 v2 x4 m1 hq0
set_option maxRecDepth 20000 in
set_option maxHeartbeats 4000000 in
theorem wJ7_fill_d0a16 {G : XG} {l : Launch} {d : Nat} (hn : xN G) (hdep : 0 ≤ d) {m0 : XM} (hT : xT G m0) {a0 : Nat} {a1 : Int64} (ha0 : isa G a0 11) : ∀ z, fJ7_fill_d0a16 (xln G) a0 a1 m0 = some z → xMet G l mJ7_fill_d0a16 d [.ref (xad G a0), .long a1] m0 (xrV z) := by
  refine xMet_of (by decide +kernel) hn hT (Nat.le_of_ble_eq_true rfl) (fun X F => ?_)
  refine xj_sub (lv' := [(0, .ref (xad G a0)), (1, .long a1)]) [0, 1] rfl ?_
  unfold fJ7_fill_d0a16
  refine xj_iconst F 0 dJ7_fill_d0a16_0 (by decide) ?_
  refine xj_istore_n (lv' := [(3, .int 0), (0, .ref (xad G a0)), (1, .long a1)]) F dJ7_fill_d0a16_1 (by decide) rfl ?_
  refine xj_aload_n F 1 dJ7_fill_d0a16_2 rfl ?_
  refine xj_alen F ha0 (by decide) dJ7_fill_d0a16_3 (fun v1 => ?_)
  refine xj_istore (lv' := [(4, .int v1), (3, .int 0), (0, .ref (xad G a0)), (1, .long a1)]) F dJ7_fill_d0a16_4 (by decide) rfl ?_
  refine xj_sub (lv' := [(0, .ref (xad G a0)), (1, .long a1), (3, .int 0), (4, .int v1)]) [2, 3, 1, 0] rfl ?_
  exact jJ7_fill_d0a16_6 F hdep XF a0 a1 0 v1 m0 ha0
set_option maxRecDepth 20000 in
set_option maxHeartbeats 4000000 in
theorem wJ6_bitCount_0f7a4 {G : XG} {l : Launch} {d : Nat} (hn : xN G) (hdep : 0 ≤ d) {m0 : XM} (hT : xT G m0) {a0 : Int32} : ∀ z, fJ6_bitCount_0f7a4 (xln G) a0 m0 = some z → xMet G l mJ6_bitCount_0f7a4 d [.int a0] m0 (xrI z) := by
  refine xMet_of (by decide +kernel) hn hT (Nat.le_of_ble_eq_true rfl) (fun X F => ?_)
  refine xj_sub (lv' := [(0, .int a0)]) [0] rfl ?_
  unfold fJ6_bitCount_0f7a4
  refine xj_iload_n F 0 dJ6_bitCount_0f7a4_0 rfl ?_
  refine xj_iload_n F 0 dJ6_bitCount_0f7a4_1 rfl ?_
  refine xj_iconst F 1 dJ6_bitCount_0f7a4_2 (by decide) ?_
  refine xj_iushr F dJ6_bitCount_0f7a4_3 (fun v1 => ?_)
  refine xj_ldcw F lcJ6_265 dJ6_bitCount_0f7a4_4 ?_
  refine xj_iand F dJ6_bitCount_0f7a4_7 (fun v2 => ?_)
  refine xj_isub F dJ6_bitCount_0f7a4_8 (fun v3 => ?_)
  refine xj_istore_n (lv' := [(0, .int v3)]) F dJ6_bitCount_0f7a4_9 (by decide) rfl ?_
  refine xj_iload_n F 0 dJ6_bitCount_0f7a4_10 rfl ?_
  refine xj_ldcw F lcJ6_266 dJ6_bitCount_0f7a4_11 ?_
  refine xj_iand F dJ6_bitCount_0f7a4_14 (fun v4 => ?_)
  refine xj_iload_n F 0 dJ6_bitCount_0f7a4_15 rfl ?_
  refine xj_iconst F 2 dJ6_bitCount_0f7a4_16 (by decide) ?_
  refine xj_iushr F dJ6_bitCount_0f7a4_17 (fun v5 => ?_)
  refine xj_ldcw F lcJ6_266 dJ6_bitCount_0f7a4_18 ?_
  refine xj_iand F dJ6_bitCount_0f7a4_21 (fun v6 => ?_)
  refine xj_iadd F dJ6_bitCount_0f7a4_22 (fun v7 => ?_)
  refine xj_istore_n (lv' := [(0, .int v7)]) F dJ6_bitCount_0f7a4_23 (by decide) rfl ?_
  refine xj_iload_n F 0 dJ6_bitCount_0f7a4_24 rfl ?_
  refine xj_iload_n F 0 dJ6_bitCount_0f7a4_25 rfl ?_
  refine xj_iconst F 4 dJ6_bitCount_0f7a4_26 (by decide) ?_
  refine xj_iushr F dJ6_bitCount_0f7a4_27 (fun v8 => ?_)
  refine xj_iadd F dJ6_bitCount_0f7a4_28 (fun v9 => ?_)
  refine xj_ldcw F lcJ6_267 dJ6_bitCount_0f7a4_29 ?_
  refine xj_iand F dJ6_bitCount_0f7a4_32 (fun v10 => ?_)
  refine xj_istore_n (lv' := [(0, .int v10)]) F dJ6_bitCount_0f7a4_33 (by decide) rfl ?_
  refine xj_iload_n F 0 dJ6_bitCount_0f7a4_34 rfl ?_
  refine xj_iload_n F 0 dJ6_bitCount_0f7a4_35 rfl ?_
  refine xj_bipush F 8 dJ6_bitCount_0f7a4_36 (by decide) ?_
  refine xj_iushr F dJ6_bitCount_0f7a4_38 (fun v11 => ?_)
  refine xj_iadd F dJ6_bitCount_0f7a4_39 (fun v12 => ?_)
  refine xj_istore_n (lv' := [(0, .int v12)]) F dJ6_bitCount_0f7a4_40 (by decide) rfl ?_
  refine xj_iload_n F 0 dJ6_bitCount_0f7a4_41 rfl ?_
  refine xj_iload_n F 0 dJ6_bitCount_0f7a4_42 rfl ?_
  refine xj_bipush F 16 dJ6_bitCount_0f7a4_43 (by decide) ?_
  refine xj_iushr F dJ6_bitCount_0f7a4_45 (fun v13 => ?_)
  refine xj_iadd F dJ6_bitCount_0f7a4_46 (fun v14 => ?_)
  refine xj_istore_n (lv' := [(0, .int v14)]) F dJ6_bitCount_0f7a4_47 (by decide) rfl ?_
  refine xj_iload_n F 0 dJ6_bitCount_0f7a4_48 rfl ?_
  refine xj_bipush F 63 dJ6_bitCount_0f7a4_49 (by decide) ?_
  refine xj_iand F dJ6_bitCount_0f7a4_51 (fun v15 => ?_)
  exact xj_ret F rfl dJ6_bitCount_0f7a4_52
