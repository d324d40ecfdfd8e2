set_option maxRecDepth 20000 in
set_option maxHeartbeats 4000000 in
theorem wX9_trace {G : XG} {l : Launch} {d : Nat} (hn : xN G) (hdep : 604 ≤ d) {m0 : XM} (hT : xT G m0) {a0 : Nat} {a1 : Int32} {a2 : Int32} (ha0 : isa G a0 9) : ∀ z, fX9_trace (xln G) a0 a1 a2 m0 = some z → xMet G l mX9_trace d [.ref (xad G a0), .int a1, .int a2] m0 (xrI z) := by
  refine xMet_of (by decide +kernel) hn hT (Nat.le_of_ble_eq_true rfl) (fun X F => ?_)
  refine xj_sub (lv' := [(0, .ref (xad G a0)), (1, .int a1), (2, .int a2)]) [0, 1, 2] rfl ?_
  unfold fX9_trace
  refine xj_aload_n F 0 dX9_trace_0 rfl ?_
  refine xj_iconst F 0 dX9_trace_1 (by decide) ?_
  refine xj_put F ha0 lpX9_91 dX9_trace_2 (fun m1 => ?_)
  refine xj_aload_n F 0 dX9_trace_5 rfl ?_
  refine xj_callVV (b := a0) (As := []) (d' := 603) F ha0 lmX9_382 rfl rfl (Nat.le_of_ble_eq_true rfl) (xfit (Nat.le_trans (Nat.le_of_ble_eq_true rfl) hdep)) dX9_trace_6 (fun hT z hz => wX9_lays (xnd F) (Nat.le_refl _) hT (a0 := a0) ha0 z hz) (fun m2 => ?_)
  refine xj_aload_n F 0 dX9_trace_9 rfl ?_
  refine xj_iload_n F 1 dX9_trace_10 rfl ?_
  refine xj_iconst F 0 dX9_trace_11 (by decide) ?_
  refine xj_aload_n F 0 dX9_trace_12 rfl ?_
  refine xj_get F ha0 lgX9_358 dX9_trace_13 (fun v3 => ?_)
  refine xj_iconst F 1 dX9_trace_16 (by decide) ?_
  refine xj_isub F dX9_trace_17 (fun v4 => ?_)
  refine xj_callSI (As := [.int a1, .int 0, .int v4]) (d' := 0) F lmX9_155 rfl rfl (Nat.le_of_ble_eq_true rfl) (xfit (Nat.le_trans (Nat.le_of_ble_eq_true rfl) hdep)) dX9_trace_18 (fun hT z hz => wX9_in (xnd F) (Nat.le_refl _) hT (a0 := a1) (a1 := 0) (a2 := v4)  z hz) (fun v6 m5 => ?_)
  refine xj_if_ne (tgt := 28) F dX9_trace_21 (by decide) ?_ ?_
  · refine xj_iconst F 0 dX9_trace_28 (by decide) ?_
    exact jX9_trace_29 F hdep a0 a1 a2 a0 0 m5 ha0 ha0
  · refine xj_iconst F 1 dX9_trace_24 (by decide) ?_
    refine xj_goto (tgt := 29) F dX9_trace_25 (by decide) ?_
    exact jX9_trace_29 F hdep a0 a1 a2 a0 1 m5 ha0 ha0
set_option maxRecDepth 20000 in
set_option maxHeartbeats 4000000 in
theorem jX9_broken_42 {G : XG} {l : Launch} {d : Nat} {X : XX} (F : xF (xE G d) G X mX9_broken) (hdep : 604 ≤ d) : ∀ (q0 : Nat) (x1 : Int32) (x2 : Int32) (p0 : Nat) (s1 : Int32) (m0 : XM), isa G q0 9 → isa G p0 9 → xJ (xE G d) (xQ xrI G X mX9_broken) G l X mX9_broken 42 [(0, .ref (xad G q0)), (1, .int x1), (2, .int x2)] [.int s1, .ref (xad G p0)] m0 (fX9_broken_42 (xln G) q0 x1 x2 p0 s1 m0) := by
  intro q0 x1 x2 p0 s1 m0 hq0 hp0
  unfold fX9_broken_42
  refine xj_iconst F 2 dX9_broken_42 (by decide) ?_
  refine xj_iconst F 1 dX9_broken_43 (by decide) ?_
  refine xj_callVI (b := p0) (As := [.int s1, .int 2, .int 1]) (d' := 0) F hp0 lmX9_257 rfl rfl (Nat.le_of_ble_eq_true rfl) (xfit (Nat.le_trans (Nat.le_of_ble_eq_true rfl) hdep)) dX9_broken_44 (fun hT z hz => wX9_bad (xnd F) (Nat.le_refl _) hT (a0 := p0) (a1 := s1) (a2 := 2) (a3 := 1) hp0 z hz) (fun v2 m1 => ?_)
  refine xj_if_eq (tgt := 52) F dX9_broken_47 (by decide) ?_ ?_
  · refine xj_aload_n F 0 dX9_broken_52 rfl ?_
    refine xj_callVV (b := q0) (As := []) (d' := 603) F hq0 lmX9_382 rfl rfl (Nat.le_of_ble_eq_true rfl) (xfit (Nat.le_trans (Nat.le_of_ble_eq_true rfl) hdep)) dX9_broken_53 (fun hT z hz => wX9_lays (xnd F) (Nat.le_refl _) hT (a0 := q0) hq0 z hz) (fun m3 => ?_)
    refine xj_iload_n F 2 dX9_broken_56 rfl ?_
    refine xj_if_ne (tgt := 69) F dX9_broken_57 (by decide) ?_ ?_
    · refine xj_iload_n F 2 dX9_broken_69 rfl ?_
      refine xj_iconst F 1 dX9_broken_70 (by decide) ?_
      refine xj_icmp_ne (tgt := 83) F dX9_broken_71 (by decide) ?_ ?_
      · refine xj_aload_n F 0 dX9_broken_83 rfl ?_
        refine xj_getR F hq0 lgX9_54 dX9_broken_84 (fun u4 hu4 => ?_)
        refine xj_iload_n F 1 dX9_broken_87 rfl ?_
        refine xj_iald F hu4 dX9_broken_88 (fun v5 => ?_)
        exact xj_ret F rfl dX9_broken_89
      · refine xj_aload_n F 0 dX9_broken_74 rfl ?_
        refine xj_getR F hq0 lgX9_51 dX9_broken_75 (fun u6 hu6 => ?_)
        refine xj_iload_n F 1 dX9_broken_78 rfl ?_
        refine xj_iald F hu6 dX9_broken_79 (fun v7 => ?_)
        refine xj_goto (tgt := 89) F dX9_broken_80 (by decide) ?_
        exact xj_ret F rfl dX9_broken_89
    · refine xj_aload_n F 0 dX9_broken_60 rfl ?_
      refine xj_getR F hq0 lgX9_48 dX9_broken_61 (fun u8 hu8 => ?_)
      refine xj_iload_n F 1 dX9_broken_64 rfl ?_
      refine xj_iald F hu8 dX9_broken_65 (fun v9 => ?_)
      refine xj_goto (tgt := 89) F dX9_broken_66 (by decide) ?_
      exact xj_ret F rfl dX9_broken_89
  · refine xj_iconst F 0 dX9_broken_50 (by decide) ?_
    exact xj_ret F rfl dX9_broken_51
set_option maxRecDepth 20000 in
set_option maxHeartbeats 4000000 in
theorem jX9_broken_19 {G : XG} {l : Launch} {d : Nat} {X : XX} (F : xF (xE G d) G X mX9_broken) (hdep : 604 ≤ d) : ∀ (q0 : Nat) (x1 : Int32) (x2 : Int32) (p0 : Nat) (s1 : Int32) (m0 : XM), isa G q0 9 → isa G p0 9 → xJ (xE G d) (xQ xrI G X mX9_broken) G l X mX9_broken 19 [(0, .ref (xad G q0)), (1, .int x1), (2, .int x2)] [.int s1, .ref (xad G p0)] m0 (fX9_broken_19 (xln G) q0 x1 x2 p0 s1 m0) := by
  intro q0 x1 x2 p0 s1 m0 hq0 hp0
  unfold fX9_broken_19
  refine xj_iconst F 1 dX9_broken_19 (by decide) ?_
  refine xj_iconst F 0 dX9_broken_20 (by decide) ?_
  refine xj_callVI (b := p0) (As := [.int s1, .int 1, .int 0]) (d' := 0) F hp0 lmX9_257 rfl rfl (Nat.le_of_ble_eq_true rfl) (xfit (Nat.le_trans (Nat.le_of_ble_eq_true rfl) hdep)) dX9_broken_21 (fun hT z hz => wX9_bad (xnd F) (Nat.le_refl _) hT (a0 := p0) (a1 := s1) (a2 := 1) (a3 := 0) hp0 z hz) (fun v2 m1 => ?_)
  refine xj_if_ne (tgt := 50) F dX9_broken_24 (by decide) ?_ ?_
  · refine xj_iconst F 0 dX9_broken_50 (by decide) ?_
    exact xj_ret F rfl dX9_broken_51
  · refine xj_aload_n F 0 dX9_broken_27 rfl ?_
    refine xj_iload_n F 2 dX9_broken_28 rfl ?_
    refine xj_iconst F 0 dX9_broken_29 (by decide) ?_
    refine xj_iconst F 2 dX9_broken_30 (by decide) ?_
    refine xj_callSI (As := [.int x2, .int 0, .int 2]) (d' := 0) F lmX9_155 rfl rfl (Nat.le_of_ble_eq_true rfl) (xfit (Nat.le_trans (Nat.le_of_ble_eq_true rfl) hdep)) dX9_broken_31 (fun hT z hz => wX9_in (xnd F) (Nat.le_refl _) hT (a0 := x2) (a1 := 0) (a2 := 2)  z hz) (fun v4 m3 => ?_)
    refine xj_if_ne (tgt := 41) F dX9_broken_34 (by decide) ?_ ?_
    · refine xj_iconst F 0 dX9_broken_41 (by decide) ?_
      exact jX9_broken_42 F hdep q0 x1 x2 q0 0 m3 hq0 hq0
    · refine xj_iconst F 1 dX9_broken_37 (by decide) ?_
      refine xj_goto (tgt := 42) F dX9_broken_38 (by decide) ?_
      exact jX9_broken_42 F hdep q0 x1 x2 q0 1 m3 hq0 hq0
set_option maxRecDepth 20000 in
set_option maxHeartbeats 4000000 in
theorem wX9_broken {G : XG} {l : Launch} {d : Nat} (hn : xN G) (hdep : 604 ≤ d) {m0 : XM} (hT : xT G m0) {a0 : Nat} {a1 : Int32} {a2 : Int32} (ha0 : isa G a0 9) : ∀ z, fX9_broken (xln G) a0 a1 a2 m0 = some z → xMet G l mX9_broken d [.ref (xad G a0), .int a1, .int a2] m0 (xrI z) := by
  refine xMet_of (by decide +kernel) hn hT (Nat.le_of_ble_eq_true rfl) (fun X F => ?_)
  refine xj_sub (lv' := [(0, .ref (xad G a0)), (1, .int a1), (2, .int a2)]) [0, 1, 2] rfl ?_
  unfold fX9_broken
  refine xj_aload_n F 0 dX9_broken_0 rfl ?_
  refine xj_iconst F 0 dX9_broken_1 (by decide) ?_
  refine xj_put F ha0 lpX9_91 dX9_broken_2 (fun m1 => ?_)
  refine xj_aload_n F 0 dX9_broken_5 rfl ?_
  refine xj_aload_n F 0 dX9_broken_6 rfl ?_
  refine xj_iload_n F 1 dX9_broken_7 rfl ?_
  refine xj_callVI (b := a0) (As := [.int a1]) (d' := 1) F ha0 lmX9_283 rfl rfl (Nat.le_of_ble_eq_true rfl) (xfit (Nat.le_trans (Nat.le_of_ble_eq_true rfl) hdep)) dX9_broken_8 (fun hT z hz => wX9_isUnit (xnd F) (Nat.le_refl _) hT (a0 := a0) (a1 := a1) ha0 z hz) (fun v3 m2 => ?_)
  refine xj_if_ne (tgt := 18) F dX9_broken_11 (by decide) ?_ ?_
  · refine xj_iconst F 0 dX9_broken_18 (by decide) ?_
    exact jX9_broken_19 F hdep a0 a1 a2 a0 0 m2 ha0 ha0
  · refine xj_iconst F 1 dX9_broken_14 (by decide) ?_
    refine xj_goto (tgt := 19) F dX9_broken_15 (by decide) ?_
    exact jX9_broken_19 F hdep a0 a1 a2 a0 1 m2 ha0 ha0
set_option maxRecDepth 20000 in
set_option maxHeartbeats 4000000 in
theorem jX9_alike_203 {G : XG} {l : Launch} {d : Nat} {X : XX} (F : xF (xE G d) G X mX9_alike) (hdep : 604 ≤ d) {r121 : Nat → Int32 → XM → Option (Int32 × XM)} (hr121 : ∀ (q0 : Nat) (x3 : Int32) (m0 : XM), isa G q0 9 → xJ (xE G d) (xQ xrI G X mX9_alike) G l X mX9_alike 121 [(0, .ref (xad G q0)), (3, .int x3)] [] m0 (r121 q0 x3 m0)) {r134 : Nat → Int32 → Int32 → XM → Option (Int32 × XM)} (hr134 : ∀ (q0 : Nat) (x3 : Int32) (x4 : Int32) (m0 : XM), isa G q0 9 → xJ (xE G d) (xQ xrI G X mX9_alike) G l X mX9_alike 134 [(0, .ref (xad G q0)), (3, .int x3), (4, .int x4)] [] m0 (r134 q0 x3 x4 m0)) : ∀ (q0 : Nat) (x3 : Int32) (x4 : Int32) (m0 : XM), isa G q0 9 → xJ (xE G d) (xQ xrI G X mX9_alike) G l X mX9_alike 203 [(0, .ref (xad G q0)), (3, .int x3), (4, .int x4)] [] m0 (fX9_alike_203 (xln G) r121 r134 q0 x3 x4 m0) := by
  intro q0 x3 x4 m0 hq0
  unfold fX9_alike_203
  refine xj_iinc F 2 1 (fun v1 => [(4, .int v1), (0, .ref (xad G q0)), (3, .int x3)]) dX9_alike_203 rfl (by decide) (by decide) (fun _ => rfl) (fun v1 => ?_)
  refine xj_goto (tgt := 134) F dX9_alike_206 (by decide) ?_
  refine xj_sub (lv' := [(0, .ref (xad G q0)), (3, .int x3), (4, .int v1)]) [1, 2, 0] rfl ?_
  exact hr134 q0 x3 v1 m0 hq0
set_option maxRecDepth 20000 in
set_option maxHeartbeats 4000000 in
theorem jX9_alike_209 {G : XG} {l : Launch} {d : Nat} {X : XX} (F : xF (xE G d) G X mX9_alike) (hdep : 604 ≤ d) {r121 : Nat → Int32 → XM → Option (Int32 × XM)} (hr121 : ∀ (q0 : Nat) (x3 : Int32) (m0 : XM), isa G q0 9 → xJ (xE G d) (xQ xrI G X mX9_alike) G l X mX9_alike 121 [(0, .ref (xad G q0)), (3, .int x3)] [] m0 (r121 q0 x3 m0)) : ∀ (q0 : Nat) (x3 : Int32) (m0 : XM), isa G q0 9 → xJ (xE G d) (xQ xrI G X mX9_alike) G l X mX9_alike 209 [(0, .ref (xad G q0)), (3, .int x3)] [] m0 (fX9_alike_209 (xln G) r121 q0 x3 m0) := by
  intro q0 x3 m0 hq0
  unfold fX9_alike_209
  refine xj_iinc F 1 1 (fun v1 => [(3, .int v1), (0, .ref (xad G q0))]) dX9_alike_209 rfl (by decide) (by decide) (fun _ => rfl) (fun v1 => ?_)
  refine xj_goto (tgt := 121) F dX9_alike_212 (by decide) ?_
  refine xj_sub (lv' := [(0, .ref (xad G q0)), (3, .int v1)]) [1, 0] rfl ?_
  exact hr121 q0 v1 m0 hq0
set_option maxRecDepth 20000 in
set_option maxHeartbeats 4000000 in
theorem jX9_alike_134 {G : XG} {l : Launch} {d : Nat} {X : XX} (F : xF (xE G d) G X mX9_alike) (hdep : 604 ≤ d) {r121 : Nat → Int32 → XM → Option (Int32 × XM)} (hr121 : ∀ (q0 : Nat) (x3 : Int32) (m0 : XM), isa G q0 9 → xJ (xE G d) (xQ xrI G X mX9_alike) G l X mX9_alike 121 [(0, .ref (xad G q0)), (3, .int x3)] [] m0 (r121 q0 x3 m0)) : ∀ (n : Nat) (q0 : Nat) (x3 : Int32) (x4 : Int32) (m0 : XM), isa G q0 9 → xJ (xE G d) (xQ xrI G X mX9_alike) G l X mX9_alike 134 [(0, .ref (xad G q0)), (3, .int x3), (4, .int x4)] [] m0 (fX9_alike_134 (xln G) r121 n q0 x3 x4 m0) := by
  intro n
  induction n with
  | zero => intro q0 x3 x4 m0 hq0; exact xj_none
  | succ n hr134 =>
    intro q0 x3 x4 m0 hq0
    unfold fX9_alike_134
    generalize hrg134 : (fun q0 x3 x4 m0 => fX9_alike_134 (xln G) r121 n q0 x3 x4 m0) = r134
    have hr134 : ∀ (q0 : Nat) (x3 : Int32) (x4 : Int32) (m0 : XM), isa G q0 9 → xJ (xE G d) (xQ xrI G X mX9_alike) G l X mX9_alike 134 [(0, .ref (xad G q0)), (3, .int x3), (4, .int x4)] [] m0 (r134 q0 x3 x4 m0) := by
      subst hrg134
      exact hr134
    clear hrg134
    refine xj_eq (xv_eq _ _) ?_
    refine xj_iload F 2 dX9_alike_134 rfl ?_
    refine xj_aload_n F 0 dX9_alike_136 rfl ?_
    refine xj_getR F hq0 lgX9_20 dX9_alike_137 (fun u1 hu1 => ?_)
    refine xj_iload_n F 1 dX9_alike_140 rfl ?_
    refine xj_iconst F 2 dX9_alike_141 (by decide) ?_
    refine xj_callSI (As := [.ref (xad G u1), .int x3, .int 2]) (d' := 0) F lmX9_97 rfl rfl (Nat.le_of_ble_eq_true rfl) (xfit (Nat.le_trans (Nat.le_of_ble_eq_true rfl) hdep)) dX9_alike_142 (fun hT z hz => wX9_unitOf (xnd F) (Nat.le_refl _) hT (a0 := u1) (a1 := x3) (a2 := 2) hu1 z hz) (fun v3 m2 => ?_)
    refine xj_icmp_ge (tgt := 209) F dX9_alike_145 (by decide) ?_ ?_
    · refine xj_sub (lv' := [(0, .ref (xad G q0)), (3, .int x3)]) [0, 1] rfl ?_
      exact jX9_alike_209 F hdep hr121 q0 x3 m2 hq0
    · refine xj_aload_n F 0 dX9_alike_148 rfl ?_
      refine xj_getR F hq0 lgX9_79 dX9_alike_149 (fun u4 hu4 => ?_)
      refine xj_iload_n F 1 dX9_alike_152 rfl ?_
      refine xj_iald F hu4 dX9_alike_153 (fun v5 => ?_)
      refine xj_iconst F 2 dX9_alike_154 (by decide) ?_
      refine xj_icmp_ne (tgt := 209) F dX9_alike_155 (by decide) ?_ ?_
      · refine xj_sub (lv' := [(0, .ref (xad G q0)), (3, .int x3)]) [0, 1] rfl ?_
        exact jX9_alike_209 F hdep hr121 q0 x3 m2 hq0
      · refine xj_aload_n F 0 dX9_alike_158 rfl ?_
        refine xj_getR F hq0 lgX9_20 dX9_alike_159 (fun u6 hu6 => ?_)
        refine xj_iload_n F 1 dX9_alike_162 rfl ?_
        refine xj_iload F 2 dX9_alike_163 rfl ?_
        refine xj_callSI (As := [.ref (xad G u6), .int x3, .int x4]) (d' := 0) F lmX9_101 rfl rfl (Nat.le_of_ble_eq_true rfl) (xfit (Nat.le_trans (Nat.le_of_ble_eq_true rfl) hdep)) dX9_alike_165 (fun hT z hz => wX9_memberAt (xnd F) (Nat.le_refl _) hT (a0 := u6) (a1 := x3) (a2 := x4) hu6 z hz) (fun v8 m7 => ?_)
        refine xj_istore (lv' := [(5, .int v8), (0, .ref (xad G q0)), (3, .int x3), (4, .int x4)]) F dX9_alike_168 (by decide) rfl ?_
        refine xj_aload_n F 1 dX9_alike_170 rfl ?_
        refine xj_getR F hq0 lgX9_20 dX9_alike_171 (fun u9 hu9 => ?_)
        refine xj_iload F 0 dX9_alike_174 rfl ?_
        refine xj_iconst F 0 dX9_alike_176 (by decide) ?_
        refine xj_callSI (As := [.ref (xad G u9), .int v8, .int 0]) (d' := 0) F lmX9_104 rfl rfl (Nat.le_of_ble_eq_true rfl) (xfit (Nat.le_trans (Nat.le_of_ble_eq_true rfl) hdep)) dX9_alike_177 (fun hT z hz => wX9_ofMember (xnd F) (Nat.le_refl _) hT (a0 := u9) (a1 := v8) (a2 := 0) hu9 z hz) (fun v11 m10 => ?_)
        refine xj_iconst F 1 dX9_alike_180 (by decide) ?_
        refine xj_icmp_ne (tgt := 203) F dX9_alike_181 (by decide) ?_ ?_
        · refine xj_sub (lv' := [(0, .ref (xad G q0)), (3, .int x3), (4, .int x4)]) [1, 2, 3] rfl ?_
          exact jX9_alike_203 F hdep hr121 hr134 q0 x3 x4 m10 hq0
        · refine xj_aload_n F 1 dX9_alike_184 rfl ?_
          refine xj_getR F hq0 lgX9_45 dX9_alike_185 (fun u12 hu12 => ?_)
          refine xj_iload F 0 dX9_alike_188 rfl ?_
          refine xj_iald F hu12 dX9_alike_190 (fun v13 => ?_)
          refine xj_aload_n F 1 dX9_alike_191 rfl ?_
          refine xj_getR F hq0 lgX9_76 dX9_alike_192 (fun u14 hu14 => ?_)
          refine xj_iload F 0 dX9_alike_195 rfl ?_
          refine xj_iald F hu14 dX9_alike_197 (fun v15 => ?_)
          refine xj_icmp_eq (tgt := 203) F dX9_alike_198 (by decide) ?_ ?_
          · refine xj_sub (lv' := [(0, .ref (xad G q0)), (3, .int x3), (4, .int x4)]) [1, 2, 3] rfl ?_
            exact jX9_alike_203 F hdep hr121 hr134 q0 x3 x4 m10 hq0
          · refine xj_iconst F 0 dX9_alike_201 (by decide) ?_
            exact xj_ret F rfl dX9_alike_202
set_option maxRecDepth 20000 in
set_option maxHeartbeats 4000000 in
theorem jX9_alike_121 {G : XG} {l : Launch} {d : Nat} {X : XX} (F : xF (xE G d) G X mX9_alike) (hdep : 604 ≤ d) : ∀ (n : Nat) (q0 : Nat) (x3 : Int32) (m0 : XM), isa G q0 9 → xJ (xE G d) (xQ xrI G X mX9_alike) G l X mX9_alike 121 [(0, .ref (xad G q0)), (3, .int x3)] [] m0 (fX9_alike_121 (xln G) n q0 x3 m0) := by
  intro n
  induction n with
  | zero => intro q0 x3 m0 hq0; exact xj_none
  | succ n hr121 =>
    intro q0 x3 m0 hq0
    unfold fX9_alike_121
    generalize hrg121 : (fun q0 x3 m0 => fX9_alike_121 (xln G) n q0 x3 m0) = r121
    have hr121 : ∀ (q0 : Nat) (x3 : Int32) (m0 : XM), isa G q0 9 → xJ (xE G d) (xQ xrI G X mX9_alike) G l X mX9_alike 121 [(0, .ref (xad G q0)), (3, .int x3)] [] m0 (r121 q0 x3 m0) := by
      subst hrg121
      exact hr121
    clear hrg121
    refine xj_eq (xv_eq _ _) ?_
    refine xj_iload_n F 1 dX9_alike_121 rfl ?_
    refine xj_aload_n F 0 dX9_alike_122 rfl ?_
    refine xj_getR F hq0 lgX9_20 dX9_alike_123 (fun u1 hu1 => ?_)
    refine xj_iconst F 0 dX9_alike_126 (by decide) ?_
    refine xj_iald F hu1 dX9_alike_127 (fun v2 => ?_)
    refine xj_icmp_ge (tgt := 215) F dX9_alike_128 (by decide) ?_ ?_
    · refine xj_iconst F 1 dX9_alike_215 (by decide) ?_
      exact xj_ret F rfl dX9_alike_216
    · refine xj_iconst F 0 dX9_alike_131 (by decide) ?_
      refine xj_istore (lv' := [(4, .int 0), (0, .ref (xad G q0)), (3, .int x3)]) F dX9_alike_132 (by decide) rfl ?_
      refine xj_sub (lv' := [(0, .ref (xad G q0)), (3, .int x3), (4, .int 0)]) [1, 2, 0] rfl ?_
      exact jX9_alike_134 F hdep hr121 XF q0 x3 0 m0 hq0
set_option maxRecDepth 20000 in
set_option maxHeartbeats 4000000 in
theorem jX9_alike_75 {G : XG} {l : Launch} {d : Nat} {X : XX} (F : xF (xE G d) G X mX9_alike) (hdep : 604 ≤ d) : ∀ (n : Nat) (q0 : Nat) (x1 : Int32) (x2 : Int32) (x3 : Int32) (m0 : XM), isa G q0 9 → xJ (xE G d) (xQ xrI G X mX9_alike) G l X mX9_alike 75 [(0, .ref (xad G q0)), (1, .int x1), (2, .int x2), (3, .int x3)] [] m0 (fX9_alike_75 (xln G) n q0 x1 x2 x3 m0) := by
  intro n
  induction n with
  | zero => intro q0 x1 x2 x3 m0 hq0; exact xj_none
  | succ n hr75 =>
    intro q0 x1 x2 x3 m0 hq0
    unfold fX9_alike_75
    generalize hrg75 : (fun q0 x1 x2 x3 m0 => fX9_alike_75 (xln G) n q0 x1 x2 x3 m0) = r75
    have hr75 : ∀ (q0 : Nat) (x1 : Int32) (x2 : Int32) (x3 : Int32) (m0 : XM), isa G q0 9 → xJ (xE G d) (xQ xrI G X mX9_alike) G l X mX9_alike 75 [(0, .ref (xad G q0)), (1, .int x1), (2, .int x2), (3, .int x3)] [] m0 (r75 q0 x1 x2 x3 m0) := by
      subst hrg75
      exact hr75
    clear hrg75
    refine xj_eq (xv_eq _ _) ?_
    refine xj_iload_n F 3 dX9_alike_75 rfl ?_
    refine xj_bipush F 7 dX9_alike_76 (by decide) ?_
    refine xj_icmp_ge (tgt := 99) F dX9_alike_78 (by decide) ?_ ?_
    · refine xj_aload_n F 0 dX9_alike_99 rfl ?_
      refine xj_iload_n F 1 dX9_alike_100 rfl ?_
      refine xj_callVV (b := q0) (As := [.int x1]) (d' := 603) F hq0 lmX9_391 rfl rfl (Nat.le_of_ble_eq_true rfl) (xfit (Nat.le_trans (Nat.le_of_ble_eq_true rfl) hdep)) dX9_alike_101 (fun hT z hz => wX9_goesEager (xnd F) (Nat.le_refl _) hT (a0 := q0) (a1 := x1) hq0 z hz) (fun m1 => ?_)
      refine xj_iload_n F 2 dX9_alike_104 rfl ?_
      refine xj_if_ne (tgt := 116) F dX9_alike_105 (by decide) ?_ ?_
      · refine xj_bipush F (-2) dX9_alike_116 (by decide) ?_
        exact xj_ret F rfl dX9_alike_118
      · refine xj_aload_n F 0 dX9_alike_108 rfl ?_
        refine xj_get F hq0 lgX9_300 dX9_alike_109 (fun v2 => ?_)
        refine xj_iconst F 2 dX9_alike_112 (by decide) ?_
        refine xj_icmp_ne (tgt := 119) F dX9_alike_113 (by decide) ?_ ?_
        · refine xj_iconst F 0 dX9_alike_119 (by decide) ?_
          refine xj_istore_n (lv' := [(3, .int 0), (0, .ref (xad G q0)), (1, .int x1), (2, .int x2)]) F dX9_alike_120 (by decide) rfl ?_
          refine xj_sub (lv' := [(0, .ref (xad G q0)), (3, .int 0)]) [1, 0] rfl ?_
          exact jX9_alike_121 F hdep XF q0 0 m1 hq0
        · refine xj_bipush F (-2) dX9_alike_116 (by decide) ?_
          exact xj_ret F rfl dX9_alike_118
    · refine xj_aload_n F 0 dX9_alike_81 rfl ?_
      refine xj_getR F hq0 lgX9_79 dX9_alike_82 (fun u3 hu3 => ?_)
      refine xj_iload_n F 3 dX9_alike_85 rfl ?_
      refine xj_aload_n F 0 dX9_alike_86 rfl ?_
      refine xj_getR F hq0 lgX9_39 dX9_alike_87 (fun u4 hu4 => ?_)
      refine xj_iload_n F 3 dX9_alike_90 rfl ?_
      refine xj_iald F hu4 dX9_alike_91 (fun v5 => ?_)
      refine xj_iast F hu3 dX9_alike_92 (fun m6 => ?_)
      refine xj_iinc F 3 1 (fun v7 => [(3, .int v7), (0, .ref (xad G q0)), (1, .int x1), (2, .int x2)]) dX9_alike_93 rfl (by decide) (by decide) (fun _ => rfl) (fun v7 => ?_)
      refine xj_goto (tgt := 75) F dX9_alike_96 (by decide) ?_
      refine xj_sub (lv' := [(0, .ref (xad G q0)), (1, .int x1), (2, .int x2), (3, .int v7)]) [1, 2, 3, 0] rfl ?_
      exact hr75 q0 x1 x2 v7 m6 hq0
set_option maxRecDepth 20000 in
set_option maxHeartbeats 4000000 in
theorem jX9_alike_49 {G : XG} {l : Launch} {d : Nat} {X : XX} (F : xF (xE G d) G X mX9_alike) (hdep : 604 ≤ d) : ∀ (n : Nat) (q0 : Nat) (x1 : Int32) (x2 : Int32) (x3 : Int32) (m0 : XM), isa G q0 9 → xJ (xE G d) (xQ xrI G X mX9_alike) G l X mX9_alike 49 [(0, .ref (xad G q0)), (1, .int x1), (2, .int x2), (3, .int x3)] [] m0 (fX9_alike_49 (xln G) n q0 x1 x2 x3 m0) := by
  intro n
  induction n with
  | zero => intro q0 x1 x2 x3 m0 hq0; exact xj_none
  | succ n hr49 =>
    intro q0 x1 x2 x3 m0 hq0
    unfold fX9_alike_49
    generalize hrg49 : (fun q0 x1 x2 x3 m0 => fX9_alike_49 (xln G) n q0 x1 x2 x3 m0) = r49
    have hr49 : ∀ (q0 : Nat) (x1 : Int32) (x2 : Int32) (x3 : Int32) (m0 : XM), isa G q0 9 → xJ (xE G d) (xQ xrI G X mX9_alike) G l X mX9_alike 49 [(0, .ref (xad G q0)), (1, .int x1), (2, .int x2), (3, .int x3)] [] m0 (r49 q0 x1 x2 x3 m0) := by
      subst hrg49
      exact hr49
    clear hrg49
    refine xj_eq (xv_eq _ _) ?_
    refine xj_iload_n F 3 dX9_alike_49 rfl ?_
    refine xj_bipush F 84 dX9_alike_50 (by decide) ?_
    refine xj_icmp_ge (tgt := 73) F dX9_alike_52 (by decide) ?_ ?_
    · refine xj_iconst F 0 dX9_alike_73 (by decide) ?_
      refine xj_istore_n (lv' := [(3, .int 0), (0, .ref (xad G q0)), (1, .int x1), (2, .int x2)]) F dX9_alike_74 (by decide) rfl ?_
      refine xj_sub (lv' := [(0, .ref (xad G q0)), (1, .int x1), (2, .int x2), (3, .int 0)]) [1, 2, 3, 0] rfl ?_
      exact jX9_alike_75 F hdep XF q0 x1 x2 0 m0 hq0
    · refine xj_aload_n F 0 dX9_alike_55 rfl ?_
      refine xj_getR F hq0 lgX9_76 dX9_alike_56 (fun u1 hu1 => ?_)
      refine xj_iload_n F 3 dX9_alike_59 rfl ?_
      refine xj_aload_n F 0 dX9_alike_60 rfl ?_
      refine xj_getR F hq0 lgX9_45 dX9_alike_61 (fun u2 hu2 => ?_)
      refine xj_iload_n F 3 dX9_alike_64 rfl ?_
      refine xj_iald F hu2 dX9_alike_65 (fun v3 => ?_)
      refine xj_iast F hu1 dX9_alike_66 (fun m4 => ?_)
      refine xj_iinc F 3 1 (fun v5 => [(3, .int v5), (0, .ref (xad G q0)), (1, .int x1), (2, .int x2)]) dX9_alike_67 rfl (by decide) (by decide) (fun _ => rfl) (fun v5 => ?_)
      refine xj_goto (tgt := 49) F dX9_alike_70 (by decide) ?_
      refine xj_sub (lv' := [(0, .ref (xad G q0)), (1, .int x1), (2, .int x2), (3, .int v5)]) [1, 2, 3, 0] rfl ?_
      exact hr49 q0 x1 x2 v5 m4 hq0
set_option maxRecDepth 20000 in
set_option maxHeartbeats 4000000 in
theorem jX9_alike_46 {G : XG} {l : Launch} {d : Nat} {X : XX} (F : xF (xE G d) G X mX9_alike) (hdep : 604 ≤ d) : ∀ (q0 : Nat) (x1 : Int32) (s0 : Int32) (m0 : XM), isa G q0 9 → xJ (xE G d) (xQ xrI G X mX9_alike) G l X mX9_alike 46 [(0, .ref (xad G q0)), (1, .int x1)] [.int s0] m0 (fX9_alike_46 (xln G) q0 x1 s0 m0) := by
  intro q0 x1 s0 m0 hq0
  unfold fX9_alike_46
  refine xj_istore_n (lv' := [(2, .int s0), (0, .ref (xad G q0)), (1, .int x1)]) F dX9_alike_46 (by decide) rfl ?_
  refine xj_iconst F 0 dX9_alike_47 (by decide) ?_
  refine xj_istore_n (lv' := [(3, .int 0), (2, .int s0), (0, .ref (xad G q0)), (1, .int x1)]) F dX9_alike_48 (by decide) rfl ?_
  refine xj_sub (lv' := [(0, .ref (xad G q0)), (1, .int x1), (2, .int s0), (3, .int 0)]) [2, 3, 1, 0] rfl ?_
  exact jX9_alike_49 F hdep XF q0 x1 s0 0 m0 hq0
set_option maxRecDepth 20000 in
set_option maxHeartbeats 4000000 in
theorem jX9_alike_19 {G : XG} {l : Launch} {d : Nat} {X : XX} (F : xF (xE G d) G X mX9_alike) (hdep : 604 ≤ d) : ∀ (q0 : Nat) (x1 : Int32) (p0 : Nat) (s1 : Int32) (m0 : XM), isa G q0 9 → isa G p0 9 → xJ (xE G d) (xQ xrI G X mX9_alike) G l X mX9_alike 19 [(0, .ref (xad G q0)), (1, .int x1)] [.int s1, .ref (xad G p0)] m0 (fX9_alike_19 (xln G) q0 x1 p0 s1 m0) := by
  intro q0 x1 p0 s1 m0 hq0 hp0
  unfold fX9_alike_19
  refine xj_iconst F 1 dX9_alike_19 (by decide) ?_
  refine xj_iconst F 1 dX9_alike_20 (by decide) ?_
  refine xj_callVI (b := p0) (As := [.int s1, .int 1, .int 1]) (d' := 0) F hp0 lmX9_257 rfl rfl (Nat.le_of_ble_eq_true rfl) (xfit (Nat.le_trans (Nat.le_of_ble_eq_true rfl) hdep)) dX9_alike_21 (fun hT z hz => wX9_bad (xnd F) (Nat.le_refl _) hT (a0 := p0) (a1 := s1) (a2 := 1) (a3 := 1) hp0 z hz) (fun v2 m1 => ?_)
  refine xj_if_eq (tgt := 29) F dX9_alike_24 (by decide) ?_ ?_
  · refine xj_aload_n F 0 dX9_alike_29 rfl ?_
    refine xj_callVV (b := q0) (As := []) (d' := 603) F hq0 lmX9_382 rfl rfl (Nat.le_of_ble_eq_true rfl) (xfit (Nat.le_trans (Nat.le_of_ble_eq_true rfl) hdep)) dX9_alike_30 (fun hT z hz => wX9_lays (xnd F) (Nat.le_refl _) hT (a0 := q0) hq0 z hz) (fun m3 => ?_)
    refine xj_aload_n F 0 dX9_alike_33 rfl ?_
    refine xj_get F hq0 lgX9_300 dX9_alike_34 (fun v4 => ?_)
    refine xj_iconst F 2 dX9_alike_37 (by decide) ?_
    refine xj_icmp_ne (tgt := 45) F dX9_alike_38 (by decide) ?_ ?_
    · refine xj_iconst F 0 dX9_alike_45 (by decide) ?_
      exact jX9_alike_46 F hdep q0 x1 0 m3 hq0
    · refine xj_iconst F 1 dX9_alike_41 (by decide) ?_
      refine xj_goto (tgt := 46) F dX9_alike_42 (by decide) ?_
      exact jX9_alike_46 F hdep q0 x1 1 m3 hq0
  · refine xj_iconst F 0 dX9_alike_27 (by decide) ?_
    exact xj_ret F rfl dX9_alike_28
set_option maxRecDepth 20000 in
set_option maxHeartbeats 4000000 in
theorem wX9_alike {G : XG} {l : Launch} {d : Nat} (hn : xN G) (hdep : 604 ≤ d) {m0 : XM} (hT : xT G m0) {a0 : Nat} {a1 : Int32} (ha0 : isa G a0 9) : ∀ z, fX9_alike (xln G) a0 a1 m0 = some z → xMet G l mX9_alike d [.ref (xad G a0), .int a1] m0 (xrI z) := by
  refine xMet_of (by decide +kernel) hn hT (Nat.le_of_ble_eq_true rfl) (fun X F => ?_)
  refine xj_sub (lv' := [(0, .ref (xad G a0)), (1, .int a1)]) [0, 1] rfl ?_
  unfold fX9_alike
  refine xj_aload_n F 0 dX9_alike_0 rfl ?_
  refine xj_iconst F 0 dX9_alike_1 (by decide) ?_
  refine xj_put F ha0 lpX9_91 dX9_alike_2 (fun m1 => ?_)
  refine xj_aload_n F 0 dX9_alike_5 rfl ?_
  refine xj_aload_n F 0 dX9_alike_6 rfl ?_
  refine xj_iload_n F 1 dX9_alike_7 rfl ?_
  refine xj_callVI (b := a0) (As := [.int a1]) (d' := 0) F ha0 lmX9_388 rfl rfl (Nat.le_of_ble_eq_true rfl) (xfit (Nat.le_trans (Nat.le_of_ble_eq_true rfl) hdep)) dX9_alike_8 (fun hT z hz => wX9_isOrder (xnd F) (Nat.le_refl _) hT (a0 := a0) (a1 := a1) ha0 z hz) (fun v3 m2 => ?_)
  refine xj_if_ne (tgt := 18) F dX9_alike_11 (by decide) ?_ ?_
  · refine xj_iconst F 0 dX9_alike_18 (by decide) ?_
    exact jX9_alike_19 F hdep a0 a1 a0 0 m2 ha0 ha0
  · refine xj_iconst F 1 dX9_alike_14 (by decide) ?_
    refine xj_goto (tgt := 19) F dX9_alike_15 (by decide) ?_
    exact jX9_alike_19 F hdep a0 a1 a0 1 m2 ha0 ha0
set_option maxRecDepth 20000 in
set_option maxHeartbeats 4000000 in
theorem jX9_orderNow_4 {G : XG} {l : Launch} {d : Nat} {X : XX} (F : xF (xE G d) G X mX9_orderNow) (hdep : 0 ≤ d) : ∀ (n : Nat) (q0 : Nat) (x1 : Int32) (x2 : Int32) (m0 : XM), isa G q0 9 → xJ (xE G d) (xQ xrI G X mX9_orderNow) G l X mX9_orderNow 4 [(0, .ref (xad G q0)), (1, .int x1), (2, .int x2)] [] m0 (fX9_orderNow_4 (xln G) n q0 x1 x2 m0) := by
  intro n
  induction n with
  | zero => intro q0 x1 x2 m0 hq0; exact xj_none
  | succ n hr4 =>
    intro q0 x1 x2 m0 hq0
    unfold fX9_orderNow_4
    generalize hrg4 : (fun q0 x1 x2 m0 => fX9_orderNow_4 (xln G) n q0 x1 x2 m0) = r4
    have hr4 : ∀ (q0 : Nat) (x1 : Int32) (x2 : Int32) (m0 : XM), isa G q0 9 → xJ (xE G d) (xQ xrI G X mX9_orderNow) G l X mX9_orderNow 4 [(0, .ref (xad G q0)), (1, .int x1), (2, .int x2)] [] m0 (r4 q0 x1 x2 m0) := by
      subst hrg4
      exact hr4
    clear hrg4
    refine xj_eq (xv_eq _ _) ?_
    refine xj_iload_n F 2 dX9_orderNow_4 rfl ?_
    refine xj_aload_n F 0 dX9_orderNow_5 rfl ?_
    refine xj_getR F hq0 lgX9_20 dX9_orderNow_6 (fun u1 hu1 => ?_)
    refine xj_iconst F 0 dX9_orderNow_9 (by decide) ?_
    refine xj_iald F hu1 dX9_orderNow_10 (fun v2 => ?_)
    refine xj_icmp_ge (tgt := 32) F dX9_orderNow_11 (by decide) ?_ ?_
    · refine xj_iload_n F 1 dX9_orderNow_32 rfl ?_
      exact xj_ret F rfl dX9_orderNow_33
    · refine xj_bipush F 10 dX9_orderNow_14 (by decide) ?_
      refine xj_iload_n F 1 dX9_orderNow_16 rfl ?_
      refine xj_imul F dX9_orderNow_17 (fun v3 => ?_)
      refine xj_aload_n F 0 dX9_orderNow_18 rfl ?_
      refine xj_getR F hq0 lgX9_82 dX9_orderNow_19 (fun u4 hu4 => ?_)
      refine xj_iload_n F 2 dX9_orderNow_22 rfl ?_
      refine xj_iald F hu4 dX9_orderNow_23 (fun v5 => ?_)
      refine xj_iadd F dX9_orderNow_24 (fun v6 => ?_)
      refine xj_istore_n (lv' := [(1, .int v6), (0, .ref (xad G q0)), (2, .int x2)]) F dX9_orderNow_25 (by decide) rfl ?_
      refine xj_iinc F 2 1 (fun v7 => [(2, .int v7), (1, .int v6), (0, .ref (xad G q0))]) dX9_orderNow_26 rfl (by decide) (by decide) (fun _ => rfl) (fun v7 => ?_)
      refine xj_goto (tgt := 4) F dX9_orderNow_29 (by decide) ?_
      refine xj_sub (lv' := [(0, .ref (xad G q0)), (1, .int v6), (2, .int v7)]) [2, 1, 0] rfl ?_
      exact hr4 q0 v6 v7 m0 hq0
set_option maxRecDepth 20000 in
set_option maxHeartbeats 4000000 in
theorem wX9_orderNow {G : XG} {l : Launch} {d : Nat} (hn : xN G) (hdep : 0 ≤ d) {m0 : XM} (hT : xT G m0) {a0 : Nat} (ha0 : isa G a0 9) : ∀ z, fX9_orderNow (xln G) a0 m0 = some z → xMet G l mX9_orderNow d [.ref (xad G a0)] m0 (xrI z) := by
  refine xMet_of (by decide +kernel) hn hT (Nat.le_of_ble_eq_true rfl) (fun X F => ?_)
  refine xj_sub (lv' := [(0, .ref (xad G a0))]) [0] rfl ?_
  unfold fX9_orderNow
  refine xj_iconst F 0 dX9_orderNow_0 (by decide) ?_
  refine xj_istore_n (lv' := [(1, .int 0), (0, .ref (xad G a0))]) F dX9_orderNow_1 (by decide) rfl ?_
  refine xj_iconst F 0 dX9_orderNow_2 (by decide) ?_
  refine xj_istore_n (lv' := [(2, .int 0), (1, .int 0), (0, .ref (xad G a0))]) F dX9_orderNow_3 (by decide) rfl ?_
  refine xj_sub (lv' := [(0, .ref (xad G a0)), (1, .int 0), (2, .int 0)]) [2, 1, 0] rfl ?_
  exact jX9_orderNow_4 F hdep XF a0 0 0 m0 ha0
set_option maxRecDepth 20000 in
set_option maxHeartbeats 4000000 in
theorem wX9_swaps {G : XG} {l : Launch} {d : Nat} (hn : xN G) (hdep : 0 ≤ d) {m0 : XM} (hT : xT G m0) {a0 : Nat} {a1 : Int32} {a2 : Int32} (ha0 : isa G a0 9) : ∀ z, fX9_swaps (xln G) a0 a1 a2 m0 = some z → xMet G l mX9_swaps d [.ref (xad G a0), .int a1, .int a2] m0 (xrV z) := by
  refine xMet_of (by decide +kernel) hn hT (Nat.le_of_ble_eq_true rfl) (fun X F => ?_)
  refine xj_sub (lv' := [(0, .ref (xad G a0)), (1, .int a1), (2, .int a2)]) [0, 1, 2] rfl ?_
  unfold fX9_swaps
  refine xj_aload_n F 0 dX9_swaps_0 rfl ?_
  refine xj_getR F ha0 lgX9_82 dX9_swaps_1 (fun u1 hu1 => ?_)
  refine xj_iload_n F 1 dX9_swaps_4 rfl ?_
  refine xj_iald F hu1 dX9_swaps_5 (fun v2 => ?_)
  refine xj_istore_n (lv' := [(3, .int v2), (0, .ref (xad G a0)), (1, .int a1), (2, .int a2)]) F dX9_swaps_6 (by decide) rfl ?_
  refine xj_aload_n F 1 dX9_swaps_7 rfl ?_
  refine xj_getR F ha0 lgX9_82 dX9_swaps_8 (fun u3 hu3 => ?_)
  refine xj_iload_n F 2 dX9_swaps_11 rfl ?_
  refine xj_aload_n F 1 dX9_swaps_12 rfl ?_
  refine xj_getR F ha0 lgX9_82 dX9_swaps_13 (fun u4 hu4 => ?_)
  refine xj_iload_n F 3 dX9_swaps_16 rfl ?_
  refine xj_iald F hu4 dX9_swaps_17 (fun v5 => ?_)
  refine xj_iast F hu3 dX9_swaps_18 (fun m6 => ?_)
  refine xj_aload_n F 1 dX9_swaps_19 rfl ?_
  refine xj_getR F ha0 lgX9_82 dX9_swaps_20 (fun u7 hu7 => ?_)
  refine xj_iload_n F 3 dX9_swaps_23 rfl ?_
  refine xj_iload_n F 0 dX9_swaps_24 rfl ?_
  refine xj_iast F hu7 dX9_swaps_25 (fun m8 => ?_)
  exact xj_retV F rfl dX9_swaps_26
set_option maxRecDepth 20000 in
set_option maxHeartbeats 4000000 in
theorem jX9_nextOrder_85 {G : XG} {l : Launch} {d : Nat} {X : XX} (F : xF (xE G d) G X mX9_nextOrder) (hdep : 1 ≤ d) : ∀ (n : Nat) (q0 : Nat) (x4 : Int32) (x5 : Int32) (m0 : XM), isa G q0 9 → xJ (xE G d) (xQ xrI G X mX9_nextOrder) G l X mX9_nextOrder 85 [(0, .ref (xad G q0)), (4, .int x4), (5, .int x5)] [] m0 (fX9_nextOrder_85 (xln G) n q0 x4 x5 m0) := by
  intro n
  induction n with
  | zero => intro q0 x4 x5 m0 hq0; exact xj_none
  | succ n hr85 =>
    intro q0 x4 x5 m0 hq0
    unfold fX9_nextOrder_85
    generalize hrg85 : (fun q0 x4 x5 m0 => fX9_nextOrder_85 (xln G) n q0 x4 x5 m0) = r85
    have hr85 : ∀ (q0 : Nat) (x4 : Int32) (x5 : Int32) (m0 : XM), isa G q0 9 → xJ (xE G d) (xQ xrI G X mX9_nextOrder) G l X mX9_nextOrder 85 [(0, .ref (xad G q0)), (4, .int x4), (5, .int x5)] [] m0 (r85 q0 x4 x5 m0) := by
      subst hrg85
      exact hr85
    clear hrg85
    refine xj_eq (xv_eq _ _) ?_
    refine xj_iload F 1 dX9_nextOrder_85 rfl ?_
    refine xj_iload F 2 dX9_nextOrder_87 rfl ?_
    refine xj_icmp_ge (tgt := 109) F dX9_nextOrder_89 (by decide) ?_ ?_
    · refine xj_iconst F 1 dX9_nextOrder_109 (by decide) ?_
      exact xj_retZ F rfl rfl dX9_nextOrder_110
    · refine xj_aload_n F 0 dX9_nextOrder_92 rfl ?_
      refine xj_iload F 1 dX9_nextOrder_93 rfl ?_
      refine xj_iload F 2 dX9_nextOrder_95 rfl ?_
      refine xj_callVV (b := q0) (As := [.int x4, .int x5]) (d' := 0) F hq0 lmX9_394 rfl rfl (Nat.le_of_ble_eq_true rfl) (xfit (Nat.le_trans (Nat.le_of_ble_eq_true rfl) hdep)) dX9_nextOrder_97 (fun hT z hz => wX9_swaps (xnd F) (Nat.le_refl _) hT (a0 := q0) (a1 := x4) (a2 := x5) hq0 z hz) (fun m1 => ?_)
      refine xj_iinc F 1 1 (fun v2 => [(4, .int v2), (0, .ref (xad G q0)), (5, .int x5)]) dX9_nextOrder_100 rfl (by decide) (by decide) (fun _ => rfl) (fun v2 => ?_)
      refine xj_iinc F 2 (-1) (fun v3 => [(5, .int v3), (4, .int v2), (0, .ref (xad G q0))]) dX9_nextOrder_103 rfl (by decide) (by decide) (fun _ => rfl) (fun v3 => ?_)
      refine xj_goto (tgt := 85) F dX9_nextOrder_106 (by decide) ?_
      refine xj_sub (lv' := [(0, .ref (xad G q0)), (4, .int v2), (5, .int v3)]) [2, 1, 0] rfl ?_
      exact hr85 q0 v2 v3 m1 hq0
set_option maxRecDepth 20000 in
set_option maxHeartbeats 4000000 in
theorem jX9_nextOrder_48 {G : XG} {l : Launch} {d : Nat} {X : XX} (F : xF (xE G d) G X mX9_nextOrder) (hdep : 1 ≤ d) : ∀ (n : Nat) (q0 : Nat) (x1 : Int32) (x2 : Int32) (x3 : Int32) (m0 : XM), isa G q0 9 → xJ (xE G d) (xQ xrI G X mX9_nextOrder) G l X mX9_nextOrder 48 [(0, .ref (xad G q0)), (1, .int x1), (2, .int x2), (3, .int x3)] [] m0 (fX9_nextOrder_48 (xln G) n q0 x1 x2 x3 m0) := by
  intro n
  induction n with
  | zero => intro q0 x1 x2 x3 m0 hq0; exact xj_none
  | succ n hr48 =>
    intro q0 x1 x2 x3 m0 hq0
    unfold fX9_nextOrder_48
    generalize hrg48 : (fun q0 x1 x2 x3 m0 => fX9_nextOrder_48 (xln G) n q0 x1 x2 x3 m0) = r48
    have hr48 : ∀ (q0 : Nat) (x1 : Int32) (x2 : Int32) (x3 : Int32) (m0 : XM), isa G q0 9 → xJ (xE G d) (xQ xrI G X mX9_nextOrder) G l X mX9_nextOrder 48 [(0, .ref (xad G q0)), (1, .int x1), (2, .int x2), (3, .int x3)] [] m0 (r48 q0 x1 x2 x3 m0) := by
      subst hrg48
      exact hr48
    clear hrg48
    refine xj_eq (xv_eq _ _) ?_
    refine xj_aload_n F 0 dX9_nextOrder_48 rfl ?_
    refine xj_getR F hq0 lgX9_82 dX9_nextOrder_49 (fun u1 hu1 => ?_)
    refine xj_iload_n F 3 dX9_nextOrder_52 rfl ?_
    refine xj_iald F hu1 dX9_nextOrder_53 (fun v2 => ?_)
    refine xj_aload_n F 0 dX9_nextOrder_54 rfl ?_
    refine xj_getR F hq0 lgX9_82 dX9_nextOrder_55 (fun u3 hu3 => ?_)
    refine xj_iload_n F 2 dX9_nextOrder_58 rfl ?_
    refine xj_iald F hu3 dX9_nextOrder_59 (fun v4 => ?_)
    refine xj_icmp_ge (tgt := 69) F dX9_nextOrder_60 (by decide) ?_ ?_
    · refine xj_aload_n F 0 dX9_nextOrder_69 rfl ?_
      refine xj_iload_n F 2 dX9_nextOrder_70 rfl ?_
      refine xj_iload_n F 3 dX9_nextOrder_71 rfl ?_
      refine xj_callVV (b := q0) (As := [.int x2, .int x3]) (d' := 0) F hq0 lmX9_394 rfl rfl (Nat.le_of_ble_eq_true rfl) (xfit (Nat.le_trans (Nat.le_of_ble_eq_true rfl) hdep)) dX9_nextOrder_72 (fun hT z hz => wX9_swaps (xnd F) (Nat.le_refl _) hT (a0 := q0) (a1 := x2) (a2 := x3) hq0 z hz) (fun m5 => ?_)
      refine xj_iload_n F 2 dX9_nextOrder_75 rfl ?_
      refine xj_iconst F 1 dX9_nextOrder_76 (by decide) ?_
      refine xj_iadd F dX9_nextOrder_77 (fun v6 => ?_)
      refine xj_istore (lv' := [(4, .int v6), (0, .ref (xad G q0)), (1, .int x1), (2, .int x2), (3, .int x3)]) F dX9_nextOrder_78 (by decide) rfl ?_
      refine xj_iload_n F 2 dX9_nextOrder_80 rfl ?_
      refine xj_iconst F 1 dX9_nextOrder_81 (by decide) ?_
      refine xj_isub F dX9_nextOrder_82 (fun v7 => ?_)
      refine xj_istore (lv' := [(5, .int v7), (4, .int v6), (0, .ref (xad G q0)), (1, .int x1), (2, .int x2), (3, .int x3)]) F dX9_nextOrder_83 (by decide) rfl ?_
      refine xj_sub (lv' := [(0, .ref (xad G q0)), (4, .int v6), (5, .int v7)]) [2, 1, 0] rfl ?_
      exact jX9_nextOrder_85 F hdep XF q0 v6 v7 m5 hq0
    · refine xj_iinc F 3 (-1) (fun v8 => [(3, .int v8), (0, .ref (xad G q0)), (1, .int x1), (2, .int x2)]) dX9_nextOrder_63 rfl (by decide) (by decide) (fun _ => rfl) (fun v8 => ?_)
      refine xj_goto (tgt := 48) F dX9_nextOrder_66 (by decide) ?_
      refine xj_sub (lv' := [(0, .ref (xad G q0)), (1, .int x1), (2, .int x2), (3, .int v8)]) [1, 2, 3, 0] rfl ?_
      exact hr48 q0 x1 x2 v8 m0 hq0
set_option maxRecDepth 20000 in
set_option maxHeartbeats 4000000 in
theorem jX9_nextOrder_38 {G : XG} {l : Launch} {d : Nat} {X : XX} (F : xF (xE G d) G X mX9_nextOrder) (hdep : 1 ≤ d) : ∀ (q0 : Nat) (x1 : Int32) (x2 : Int32) (m0 : XM), isa G q0 9 → xJ (xE G d) (xQ xrI G X mX9_nextOrder) G l X mX9_nextOrder 38 [(0, .ref (xad G q0)), (1, .int x1), (2, .int x2)] [] m0 (fX9_nextOrder_38 (xln G) q0 x1 x2 m0) := by
  intro q0 x1 x2 m0 hq0
  unfold fX9_nextOrder_38
  refine xj_iload_n F 2 dX9_nextOrder_38 rfl ?_
  refine xj_if_ge (tgt := 44) F dX9_nextOrder_39 (by decide) ?_ ?_
  · refine xj_iload_n F 1 dX9_nextOrder_44 rfl ?_
    refine xj_iconst F 1 dX9_nextOrder_45 (by decide) ?_
    refine xj_isub F dX9_nextOrder_46 (fun v1 => ?_)
    refine xj_istore_n (lv' := [(3, .int v1), (0, .ref (xad G q0)), (1, .int x1), (2, .int x2)]) F dX9_nextOrder_47 (by decide) rfl ?_
    refine xj_sub (lv' := [(0, .ref (xad G q0)), (1, .int x1), (2, .int x2), (3, .int v1)]) [1, 2, 3, 0] rfl ?_
    exact jX9_nextOrder_48 F hdep XF q0 x1 x2 v1 m0 hq0
  · refine xj_iconst F 0 dX9_nextOrder_42 (by decide) ?_
    exact xj_retZ F rfl rfl dX9_nextOrder_43
set_option maxRecDepth 20000 in
set_option maxHeartbeats 4000000 in
theorem jX9_nextOrder_11 {G : XG} {l : Launch} {d : Nat} {X : XX} (F : xF (xE G d) G X mX9_nextOrder) (hdep : 1 ≤ d) : ∀ (n : Nat) (q0 : Nat) (x1 : Int32) (x2 : Int32) (m0 : XM), isa G q0 9 → xJ (xE G d) (xQ xrI G X mX9_nextOrder) G l X mX9_nextOrder 11 [(0, .ref (xad G q0)), (1, .int x1), (2, .int x2)] [] m0 (fX9_nextOrder_11 (xln G) n q0 x1 x2 m0) := by
  intro n
  induction n with
  | zero => intro q0 x1 x2 m0 hq0; exact xj_none
  | succ n hr11 =>
    intro q0 x1 x2 m0 hq0
    unfold fX9_nextOrder_11
    generalize hrg11 : (fun q0 x1 x2 m0 => fX9_nextOrder_11 (xln G) n q0 x1 x2 m0) = r11
    have hr11 : ∀ (q0 : Nat) (x1 : Int32) (x2 : Int32) (m0 : XM), isa G q0 9 → xJ (xE G d) (xQ xrI G X mX9_nextOrder) G l X mX9_nextOrder 11 [(0, .ref (xad G q0)), (1, .int x1), (2, .int x2)] [] m0 (r11 q0 x1 x2 m0) := by
      subst hrg11
      exact hr11
    clear hrg11
    refine xj_eq (xv_eq _ _) ?_
    refine xj_iload_n F 2 dX9_nextOrder_11 rfl ?_
    refine xj_if_lt (tgt := 38) F dX9_nextOrder_12 (by decide) ?_ ?_
    · exact jX9_nextOrder_38 F hdep q0 x1 x2 m0 hq0
    · refine xj_aload_n F 0 dX9_nextOrder_15 rfl ?_
      refine xj_getR F hq0 lgX9_82 dX9_nextOrder_16 (fun u1 hu1 => ?_)
      refine xj_iload_n F 2 dX9_nextOrder_19 rfl ?_
      refine xj_iald F hu1 dX9_nextOrder_20 (fun v2 => ?_)
      refine xj_aload_n F 0 dX9_nextOrder_21 rfl ?_
      refine xj_getR F hq0 lgX9_82 dX9_nextOrder_22 (fun u3 hu3 => ?_)
      refine xj_iload_n F 2 dX9_nextOrder_25 rfl ?_
      refine xj_iconst F 1 dX9_nextOrder_26 (by decide) ?_
      refine xj_iadd F dX9_nextOrder_27 (fun v4 => ?_)
      refine xj_iald F hu3 dX9_nextOrder_28 (fun v5 => ?_)
      refine xj_icmp_le (tgt := 38) F dX9_nextOrder_29 (by decide) ?_ ?_
      · exact jX9_nextOrder_38 F hdep q0 x1 x2 m0 hq0
      · refine xj_iinc F 2 (-1) (fun v6 => [(2, .int v6), (0, .ref (xad G q0)), (1, .int x1)]) dX9_nextOrder_32 rfl (by decide) (by decide) (fun _ => rfl) (fun v6 => ?_)
        refine xj_goto (tgt := 11) F dX9_nextOrder_35 (by decide) ?_
        refine xj_sub (lv' := [(0, .ref (xad G q0)), (1, .int x1), (2, .int v6)]) [1, 2, 0] rfl ?_
        exact hr11 q0 x1 v6 m0 hq0
set_option maxRecDepth 20000 in
set_option maxHeartbeats 4000000 in
theorem wX9_nextOrder {G : XG} {l : Launch} {d : Nat} (hn : xN G) (hdep : 1 ≤ d) {m0 : XM} (hT : xT G m0) {a0 : Nat} (ha0 : isa G a0 9) : ∀ z, fX9_nextOrder (xln G) a0 m0 = some z → xMet G l mX9_nextOrder d [.ref (xad G a0)] m0 (xrI z) := by
  refine xMet_of (by decide +kernel) hn hT (Nat.le_of_ble_eq_true rfl) (fun X F => ?_)
  refine xj_sub (lv' := [(0, .ref (xad G a0))]) [0] rfl ?_
  unfold fX9_nextOrder
  refine xj_aload_n F 0 dX9_nextOrder_0 rfl ?_
  refine xj_getR F ha0 lgX9_20 dX9_nextOrder_1 (fun u1 hu1 => ?_)
  refine xj_iconst F 0 dX9_nextOrder_4 (by decide) ?_
  refine xj_iald F hu1 dX9_nextOrder_5 (fun v2 => ?_)
  refine xj_istore_n (lv' := [(1, .int v2), (0, .ref (xad G a0))]) F dX9_nextOrder_6 (by decide) rfl ?_
  refine xj_iload_n F 0 dX9_nextOrder_7 rfl ?_
  refine xj_iconst F 2 dX9_nextOrder_8 (by decide) ?_
  refine xj_isub F dX9_nextOrder_9 (fun v3 => ?_)
  refine xj_istore_n (lv' := [(2, .int v3), (1, .int v2), (0, .ref (xad G a0))]) F dX9_nextOrder_10 (by decide) rfl ?_
  refine xj_sub (lv' := [(0, .ref (xad G a0)), (1, .int v2), (2, .int v3)]) [2, 1, 0] rfl ?_
  exact jX9_nextOrder_11 F hdep XF a0 v2 v3 m0 ha0
set_option maxRecDepth 20000 in
set_option maxHeartbeats 4000000 in
theorem jX9_firstOrder_2 {G : XG} {l : Launch} {d : Nat} {X : XX} (F : xF (xE G d) G X mX9_firstOrder) (hdep : 0 ≤ d) : ∀ (n : Nat) (q0 : Nat) (x1 : Int32) (m0 : XM), isa G q0 9 → xJ (xE G d) (xQ xrV G X mX9_firstOrder) G l X mX9_firstOrder 2 [(0, .ref (xad G q0)), (1, .int x1)] [] m0 (fX9_firstOrder_2 (xln G) n q0 x1 m0) := by
  intro n
  induction n with
  | zero => intro q0 x1 m0 hq0; exact xj_none
  | succ n hr2 =>
    intro q0 x1 m0 hq0
    unfold fX9_firstOrder_2
    generalize hrg2 : (fun q0 x1 m0 => fX9_firstOrder_2 (xln G) n q0 x1 m0) = r2
    have hr2 : ∀ (q0 : Nat) (x1 : Int32) (m0 : XM), isa G q0 9 → xJ (xE G d) (xQ xrV G X mX9_firstOrder) G l X mX9_firstOrder 2 [(0, .ref (xad G q0)), (1, .int x1)] [] m0 (r2 q0 x1 m0) := by
      subst hrg2
      exact hr2
    clear hrg2
    refine xj_eq (xv_eq _ _) ?_
    refine xj_iload_n F 1 dX9_firstOrder_2 rfl ?_
    refine xj_bipush F 7 dX9_firstOrder_3 (by decide) ?_
    refine xj_icmp_ge (tgt := 21) F dX9_firstOrder_5 (by decide) ?_ ?_
    · exact xj_retV F rfl dX9_firstOrder_21
    · refine xj_aload_n F 0 dX9_firstOrder_8 rfl ?_
      refine xj_getR F hq0 lgX9_82 dX9_firstOrder_9 (fun u1 hu1 => ?_)
      refine xj_iload_n F 1 dX9_firstOrder_12 rfl ?_
      refine xj_iload_n F 1 dX9_firstOrder_13 rfl ?_
      refine xj_iast F hu1 dX9_firstOrder_14 (fun m2 => ?_)
      refine xj_iinc F 1 1 (fun v3 => [(1, .int v3), (0, .ref (xad G q0))]) dX9_firstOrder_15 rfl (by decide) (by decide) (fun _ => rfl) (fun v3 => ?_)
      refine xj_goto (tgt := 2) F dX9_firstOrder_18 (by decide) ?_
      refine xj_sub (lv' := [(0, .ref (xad G q0)), (1, .int v3)]) [1, 0] rfl ?_
      exact hr2 q0 v3 m2 hq0
set_option maxRecDepth 20000 in
set_option maxHeartbeats 4000000 in
theorem wX9_firstOrder {G : XG} {l : Launch} {d : Nat} (hn : xN G) (hdep : 0 ≤ d) {m0 : XM} (hT : xT G m0) {a0 : Nat} (ha0 : isa G a0 9) : ∀ z, fX9_firstOrder (xln G) a0 m0 = some z → xMet G l mX9_firstOrder d [.ref (xad G a0)] m0 (xrV z) := by
  refine xMet_of (by decide +kernel) hn hT (Nat.le_of_ble_eq_true rfl) (fun X F => ?_)
  refine xj_sub (lv' := [(0, .ref (xad G a0))]) [0] rfl ?_
  unfold fX9_firstOrder
  refine xj_iconst F 0 dX9_firstOrder_0 (by decide) ?_
  refine xj_istore_n (lv' := [(1, .int 0), (0, .ref (xad G a0))]) F dX9_firstOrder_1 (by decide) rfl ?_
  refine xj_sub (lv' := [(0, .ref (xad G a0)), (1, .int 0)]) [1, 0] rfl ?_
  exact jX9_firstOrder_2 F hdep XF a0 0 m0 ha0
set_option maxRecDepth 20000 in
set_option maxHeartbeats 4000000 in
theorem jX9_fewest_112 {G : XG} {l : Launch} {d : Nat} {X : XX} (F : xF (xE G d) G X mX9_fewest) (hdep : 604 ≤ d) {r44 : Nat → Int32 → Int32 → Int32 → Int32 → Int32 → XM → Option (Int32 × XM)} (hr44 : ∀ (q0 : Nat) (x1 : Int32) (x2 : Int32) (x3 : Int32) (x4 : Int32) (x5 : Int32) (m0 : XM), isa G q0 9 → xJ (xE G d) (xQ xrI G X mX9_fewest) G l X mX9_fewest 44 [(0, .ref (xad G q0)), (1, .int x1), (2, .int x2), (3, .int x3), (4, .int x4), (5, .int x5)] [] m0 (r44 q0 x1 x2 x3 x4 x5 m0)) : ∀ (q0 : Nat) (x1 : Int32) (x2 : Int32) (x3 : Int32) (s0 : Int32) (s1 : Int32) (m0 : XM), isa G q0 9 → xJ (xE G d) (xQ xrI G X mX9_fewest) G l X mX9_fewest 112 [(0, .ref (xad G q0)), (1, .int x1), (2, .int x2), (3, .int x3)] [.int s1, .int s0] m0 (fX9_fewest_112 (xln G) r44 q0 x1 x2 x3 s0 s1 m0) := by
  intro q0 x1 x2 x3 s0 s1 m0 hq0
  unfold fX9_fewest_112
  refine xj_iadd F dX9_fewest_112 (fun v1 => ?_)
  refine xj_istore (lv' := [(4, .int v1), (0, .ref (xad G q0)), (1, .int x1), (2, .int x2), (3, .int x3)]) F dX9_fewest_113 (by decide) rfl ?_
  refine xj_aload_n F 1 dX9_fewest_115 rfl ?_
  refine xj_callVI (b := q0) (As := []) (d' := 1) F hq0 lmX9_404 rfl rfl (Nat.le_of_ble_eq_true rfl) (xfit (Nat.le_trans (Nat.le_of_ble_eq_true rfl) hdep)) dX9_fewest_116 (fun hT z hz => wX9_nextOrder (xnd F) (Nat.le_refl _) hT (a0 := q0) hq0 z hz) (fun v3 m2 => ?_)
  refine xj_istore (lv' := [(5, .int v3), (4, .int v1), (0, .ref (xad G q0)), (1, .int x1), (2, .int x2), (3, .int x3)]) F dX9_fewest_119 (by decide) rfl ?_
  refine xj_goto (tgt := 44) F dX9_fewest_121 (by decide) ?_
  refine xj_sub (lv' := [(0, .ref (xad G q0)), (1, .int x1), (2, .int x2), (3, .int x3), (4, .int v1), (5, .int v3)]) [2, 3, 4, 5, 1, 0] rfl ?_
  exact hr44 q0 x1 x2 x3 v1 v3 m2 hq0
set_option maxRecDepth 20000 in
set_option maxHeartbeats 4000000 in
theorem jX9_fewest_99 {G : XG} {l : Launch} {d : Nat} {X : XX} (F : xF (xE G d) G X mX9_fewest) (hdep : 604 ≤ d) {r44 : Nat → Int32 → Int32 → Int32 → Int32 → Int32 → XM → Option (Int32 × XM)} (hr44 : ∀ (q0 : Nat) (x1 : Int32) (x2 : Int32) (x3 : Int32) (x4 : Int32) (x5 : Int32) (m0 : XM), isa G q0 9 → xJ (xE G d) (xQ xrI G X mX9_fewest) G l X mX9_fewest 44 [(0, .ref (xad G q0)), (1, .int x1), (2, .int x2), (3, .int x3), (4, .int x4), (5, .int x5)] [] m0 (r44 q0 x1 x2 x3 x4 x5 m0)) : ∀ (q0 : Nat) (x1 : Int32) (x2 : Int32) (x3 : Int32) (x4 : Int32) (x6 : Int32) (m0 : XM), isa G q0 9 → xJ (xE G d) (xQ xrI G X mX9_fewest) G l X mX9_fewest 99 [(0, .ref (xad G q0)), (1, .int x1), (2, .int x2), (3, .int x3), (4, .int x4), (6, .int x6)] [] m0 (fX9_fewest_99 (xln G) r44 q0 x1 x2 x3 x4 x6 m0) := by
  intro q0 x1 x2 x3 x4 x6 m0 hq0
  unfold fX9_fewest_99
  refine xj_iload F 4 dX9_fewest_99 rfl ?_
  refine xj_iload F 5 dX9_fewest_101 rfl ?_
  refine xj_iload_n F 2 dX9_fewest_103 rfl ?_
  refine xj_icmp_ne (tgt := 111) F dX9_fewest_104 (by decide) ?_ ?_
  · refine xj_iconst F 0 dX9_fewest_111 (by decide) ?_
    refine xj_sub (lv' := [(0, .ref (xad G q0)), (1, .int x1), (2, .int x2), (3, .int x3)]) [0, 1, 2, 3] rfl ?_
    exact jX9_fewest_112 F hdep hr44 q0 x1 x2 x3 x4 0 m0 hq0
  · refine xj_iconst F 1 dX9_fewest_107 (by decide) ?_
    refine xj_goto (tgt := 112) F dX9_fewest_108 (by decide) ?_
    refine xj_sub (lv' := [(0, .ref (xad G q0)), (1, .int x1), (2, .int x2), (3, .int x3)]) [0, 1, 2, 3] rfl ?_
    exact jX9_fewest_112 F hdep hr44 q0 x1 x2 x3 x4 1 m0 hq0
set_option maxRecDepth 20000 in
set_option maxHeartbeats 4000000 in
theorem jX9_fewest_88 {G : XG} {l : Launch} {d : Nat} {X : XX} (F : xF (xE G d) G X mX9_fewest) (hdep : 604 ≤ d) {r44 : Nat → Int32 → Int32 → Int32 → Int32 → Int32 → XM → Option (Int32 × XM)} (hr44 : ∀ (q0 : Nat) (x1 : Int32) (x2 : Int32) (x3 : Int32) (x4 : Int32) (x5 : Int32) (m0 : XM), isa G q0 9 → xJ (xE G d) (xQ xrI G X mX9_fewest) G l X mX9_fewest 44 [(0, .ref (xad G q0)), (1, .int x1), (2, .int x2), (3, .int x3), (4, .int x4), (5, .int x5)] [] m0 (r44 q0 x1 x2 x3 x4 x5 m0)) : ∀ (q0 : Nat) (x1 : Int32) (x6 : Int32) (m0 : XM), isa G q0 9 → xJ (xE G d) (xQ xrI G X mX9_fewest) G l X mX9_fewest 88 [(0, .ref (xad G q0)), (1, .int x1), (6, .int x6)] [] m0 (fX9_fewest_88 (xln G) r44 q0 x1 x6 m0) := by
  intro q0 x1 x6 m0 hq0
  unfold fX9_fewest_88
  refine xj_iload F 2 dX9_fewest_88 rfl ?_
  refine xj_istore_n (lv' := [(2, .int x6), (0, .ref (xad G q0)), (1, .int x1), (6, .int x6)]) F dX9_fewest_90 (by decide) rfl ?_
  refine xj_aload_n F 1 dX9_fewest_91 rfl ?_
  refine xj_callVI (b := q0) (As := []) (d' := 0) F hq0 lmX9_400 rfl rfl (Nat.le_of_ble_eq_true rfl) (xfit (Nat.le_trans (Nat.le_of_ble_eq_true rfl) hdep)) dX9_fewest_92 (fun hT z hz => wX9_orderNow (xnd F) (Nat.le_refl _) hT (a0 := q0) hq0 z hz) (fun v2 m1 => ?_)
  refine xj_istore_n (lv' := [(3, .int v2), (2, .int x6), (0, .ref (xad G q0)), (1, .int x1), (6, .int x6)]) F dX9_fewest_95 (by decide) rfl ?_
  refine xj_iconst F 0 dX9_fewest_96 (by decide) ?_
  refine xj_istore (lv' := [(4, .int 0), (3, .int v2), (2, .int x6), (0, .ref (xad G q0)), (1, .int x1), (6, .int x6)]) F dX9_fewest_97 (by decide) rfl ?_
  refine xj_sub (lv' := [(0, .ref (xad G q0)), (1, .int x1), (2, .int x6), (3, .int v2), (4, .int 0), (6, .int x6)]) [3, 4, 2, 1, 0, 5] rfl ?_
  exact jX9_fewest_99 F hdep hr44 q0 x1 x6 v2 0 x6 m1 hq0
set_option maxRecDepth 20000 in
set_option maxHeartbeats 4000000 in
theorem jX9_fewest_75 {G : XG} {l : Launch} {d : Nat} {X : XX} (F : xF (xE G d) G X mX9_fewest) (hdep : 604 ≤ d) {r44 : Nat → Int32 → Int32 → Int32 → Int32 → Int32 → XM → Option (Int32 × XM)} (hr44 : ∀ (q0 : Nat) (x1 : Int32) (x2 : Int32) (x3 : Int32) (x4 : Int32) (x5 : Int32) (m0 : XM), isa G q0 9 → xJ (xE G d) (xQ xrI G X mX9_fewest) G l X mX9_fewest 44 [(0, .ref (xad G q0)), (1, .int x1), (2, .int x2), (3, .int x3), (4, .int x4), (5, .int x5)] [] m0 (r44 q0 x1 x2 x3 x4 x5 m0)) : ∀ (q0 : Nat) (x1 : Int32) (x2 : Int32) (x3 : Int32) (x4 : Int32) (s0 : Int32) (m0 : XM), isa G q0 9 → xJ (xE G d) (xQ xrI G X mX9_fewest) G l X mX9_fewest 75 [(0, .ref (xad G q0)), (1, .int x1), (2, .int x2), (3, .int x3), (4, .int x4)] [.int s0] m0 (fX9_fewest_75 (xln G) r44 q0 x1 x2 x3 x4 s0 m0) := by
  intro q0 x1 x2 x3 x4 s0 m0 hq0
  unfold fX9_fewest_75
  refine xj_istore (lv' := [(6, .int s0), (0, .ref (xad G q0)), (1, .int x1), (2, .int x2), (3, .int x3), (4, .int x4)]) F dX9_fewest_75 (by decide) rfl ?_
  refine xj_iload_n F 3 dX9_fewest_77 rfl ?_
  refine xj_iconst F (-1) dX9_fewest_78 (by decide) ?_
  refine xj_icmp_eq (tgt := 88) F dX9_fewest_79 (by decide) ?_ ?_
  · refine xj_sub (lv' := [(0, .ref (xad G q0)), (1, .int x1), (6, .int s0)]) [1, 2, 0] rfl ?_
    exact jX9_fewest_88 F hdep hr44 q0 x1 s0 m0 hq0
  · refine xj_iload F 0 dX9_fewest_82 rfl ?_
    refine xj_iload_n F 3 dX9_fewest_84 rfl ?_
    refine xj_icmp_ge (tgt := 99) F dX9_fewest_85 (by decide) ?_ ?_
    · refine xj_sub (lv' := [(0, .ref (xad G q0)), (1, .int x1), (2, .int x2), (3, .int x3), (4, .int x4), (6, .int s0)]) [1, 2, 3, 4, 5, 0] rfl ?_
      exact jX9_fewest_99 F hdep hr44 q0 x1 x2 x3 x4 s0 m0 hq0
    · refine xj_sub (lv' := [(0, .ref (xad G q0)), (1, .int x1), (6, .int s0)]) [1, 2, 0] rfl ?_
      exact jX9_fewest_88 F hdep hr44 q0 x1 s0 m0 hq0
set_option maxRecDepth 20000 in
set_option maxHeartbeats 4000000 in
theorem jX9_fewest_44 {G : XG} {l : Launch} {d : Nat} {X : XX} (F : xF (xE G d) G X mX9_fewest) (hdep : 604 ≤ d) : ∀ (n : Nat) (q0 : Nat) (x1 : Int32) (x2 : Int32) (x3 : Int32) (x4 : Int32) (x5 : Int32) (m0 : XM), isa G q0 9 → xJ (xE G d) (xQ xrI G X mX9_fewest) G l X mX9_fewest 44 [(0, .ref (xad G q0)), (1, .int x1), (2, .int x2), (3, .int x3), (4, .int x4), (5, .int x5)] [] m0 (fX9_fewest_44 (xln G) n q0 x1 x2 x3 x4 x5 m0) := by
  intro n
  induction n with
  | zero => intro q0 x1 x2 x3 x4 x5 m0 hq0; exact xj_none
  | succ n hr44 =>
    intro q0 x1 x2 x3 x4 x5 m0 hq0
    unfold fX9_fewest_44
    generalize hrg44 : (fun q0 x1 x2 x3 x4 x5 m0 => fX9_fewest_44 (xln G) n q0 x1 x2 x3 x4 x5 m0) = r44
    have hr44 : ∀ (q0 : Nat) (x1 : Int32) (x2 : Int32) (x3 : Int32) (x4 : Int32) (x5 : Int32) (m0 : XM), isa G q0 9 → xJ (xE G d) (xQ xrI G X mX9_fewest) G l X mX9_fewest 44 [(0, .ref (xad G q0)), (1, .int x1), (2, .int x2), (3, .int x3), (4, .int x4), (5, .int x5)] [] m0 (r44 q0 x1 x2 x3 x4 x5 m0) := by
      subst hrg44
      exact hr44
    clear hrg44
    refine xj_eq (xv_eq _ _) ?_
    refine xj_iload F 5 dX9_fewest_44 rfl ?_
    refine xj_if_eq (tgt := 124) F dX9_fewest_46 (by decide) ?_ ?_
    · refine xj_iload_n F 1 dX9_fewest_124 rfl ?_
      refine xj_if_ne (tgt := 132) F dX9_fewest_125 (by decide) ?_ ?_
      · refine xj_iload_n F 1 dX9_fewest_132 rfl ?_
        refine xj_iconst F 1 dX9_fewest_133 (by decide) ?_
        refine xj_icmp_ne (tgt := 141) F dX9_fewest_134 (by decide) ?_ ?_
        · refine xj_iload F 4 dX9_fewest_141 rfl ?_
          exact xj_ret F rfl dX9_fewest_143
        · refine xj_iload_n F 3 dX9_fewest_137 rfl ?_
          refine xj_goto (tgt := 143) F dX9_fewest_138 (by decide) ?_
          exact xj_ret F rfl dX9_fewest_143
      · refine xj_iload_n F 2 dX9_fewest_128 rfl ?_
        refine xj_goto (tgt := 143) F dX9_fewest_129 (by decide) ?_
        exact xj_ret F rfl dX9_fewest_143
    · refine xj_aload_n F 0 dX9_fewest_49 rfl ?_
      refine xj_aload_n F 0 dX9_fewest_50 rfl ?_
      refine xj_callVI (b := q0) (As := []) (d' := 0) F hq0 lmX9_400 rfl rfl (Nat.le_of_ble_eq_true rfl) (xfit (Nat.le_trans (Nat.le_of_ble_eq_true rfl) hdep)) dX9_fewest_51 (fun hT z hz => wX9_orderNow (xnd F) (Nat.le_refl _) hT (a0 := q0) hq0 z hz) (fun v2 m1 => ?_)
      refine xj_callVV (b := q0) (As := [.int v2]) (d' := 603) F hq0 lmX9_391 rfl rfl (Nat.le_of_ble_eq_true rfl) (xfit (Nat.le_trans (Nat.le_of_ble_eq_true rfl) hdep)) dX9_fewest_54 (fun hT z hz => wX9_goesEager (xnd F) (Nat.le_refl _) hT (a0 := q0) (a1 := v2) hq0 z hz) (fun m3 => ?_)
      refine xj_aload_n F 0 dX9_fewest_57 rfl ?_
      refine xj_get F hq0 lgX9_300 dX9_fewest_58 (fun v4 => ?_)
      refine xj_iconst F 2 dX9_fewest_61 (by decide) ?_
      refine xj_icmp_ne (tgt := 71) F dX9_fewest_62 (by decide) ?_ ?_
      · refine xj_aload_n F 0 dX9_fewest_71 rfl ?_
        refine xj_get F hq0 lgX9_358 dX9_fewest_72 (fun v5 => ?_)
        refine xj_sub (lv' := [(0, .ref (xad G q0)), (1, .int x1), (2, .int x2), (3, .int x3), (4, .int x4)]) [0, 1, 2, 3, 4] rfl ?_
        exact jX9_fewest_75 F hdep hr44 q0 x1 x2 x3 x4 v5 m3 hq0
      · refine xj_ldcw F lcX9_403 dX9_fewest_65 ?_
        refine xj_goto (tgt := 75) F dX9_fewest_68 (by decide) ?_
        refine xj_sub (lv' := [(0, .ref (xad G q0)), (1, .int x1), (2, .int x2), (3, .int x3), (4, .int x4)]) [0, 1, 2, 3, 4] rfl ?_
        exact jX9_fewest_75 F hdep hr44 q0 x1 x2 x3 x4 1000000 m3 hq0
set_option maxRecDepth 20000 in
set_option maxHeartbeats 4000000 in
theorem jX9_fewest_20 {G : XG} {l : Launch} {d : Nat} {X : XX} (F : xF (xE G d) G X mX9_fewest) (hdep : 604 ≤ d) : ∀ (q0 : Nat) (x1 : Int32) (p0 : Nat) (s1 : Int32) (m0 : XM), isa G q0 9 → isa G p0 9 → xJ (xE G d) (xQ xrI G X mX9_fewest) G l X mX9_fewest 20 [(0, .ref (xad G q0)), (1, .int x1)] [.int s1, .ref (xad G p0)] m0 (fX9_fewest_20 (xln G) q0 x1 p0 s1 m0) := by
  intro q0 x1 p0 s1 m0 hq0 hp0
  unfold fX9_fewest_20
  refine xj_iconst F 1 dX9_fewest_20 (by decide) ?_
  refine xj_iconst F 1 dX9_fewest_21 (by decide) ?_
  refine xj_callVI (b := p0) (As := [.int s1, .int 1, .int 1]) (d' := 0) F hp0 lmX9_257 rfl rfl (Nat.le_of_ble_eq_true rfl) (xfit (Nat.le_trans (Nat.le_of_ble_eq_true rfl) hdep)) dX9_fewest_22 (fun hT z hz => wX9_bad (xnd F) (Nat.le_refl _) hT (a0 := p0) (a1 := s1) (a2 := 1) (a3 := 1) hp0 z hz) (fun v2 m1 => ?_)
  refine xj_if_eq (tgt := 30) F dX9_fewest_25 (by decide) ?_ ?_
  · refine xj_iconst F (-1) dX9_fewest_30 (by decide) ?_
    refine xj_istore_n (lv' := [(2, .int (-1)), (0, .ref (xad G q0)), (1, .int x1)]) F dX9_fewest_31 (by decide) rfl ?_
    refine xj_iconst F (-1) dX9_fewest_32 (by decide) ?_
    refine xj_istore_n (lv' := [(3, .int (-1)), (2, .int (-1)), (0, .ref (xad G q0)), (1, .int x1)]) F dX9_fewest_33 (by decide) rfl ?_
    refine xj_iconst F 0 dX9_fewest_34 (by decide) ?_
    refine xj_istore (lv' := [(4, .int 0), (3, .int (-1)), (2, .int (-1)), (0, .ref (xad G q0)), (1, .int x1)]) F dX9_fewest_35 (by decide) rfl ?_
    refine xj_aload_n F 3 dX9_fewest_37 rfl ?_
    refine xj_callVV (b := q0) (As := []) (d' := 0) F hq0 lmX9_397 rfl rfl (Nat.le_of_ble_eq_true rfl) (xfit (Nat.le_trans (Nat.le_of_ble_eq_true rfl) hdep)) dX9_fewest_38 (fun hT z hz => wX9_firstOrder (xnd F) (Nat.le_refl _) hT (a0 := q0) hq0 z hz) (fun m3 => ?_)
    refine xj_iconst F 1 dX9_fewest_41 (by decide) ?_
    refine xj_istore (lv' := [(5, .int 1), (4, .int 0), (3, .int (-1)), (2, .int (-1)), (0, .ref (xad G q0)), (1, .int x1)]) F dX9_fewest_42 (by decide) rfl ?_
    refine xj_sub (lv' := [(0, .ref (xad G q0)), (1, .int x1), (2, .int (-1)), (3, .int (-1)), (4, .int 0), (5, .int 1)]) [4, 5, 3, 2, 1, 0] rfl ?_
    exact jX9_fewest_44 F hdep XF q0 x1 (-1) (-1) 0 1 m3 hq0
  · refine xj_iconst F 0 dX9_fewest_28 (by decide) ?_
    exact xj_ret F rfl dX9_fewest_29
set_option maxRecDepth 20000 in
set_option maxHeartbeats 4000000 in
theorem wX9_fewest {G : XG} {l : Launch} {d : Nat} (hn : xN G) (hdep : 604 ≤ d) {m0 : XM} (hT : xT G m0) {a0 : Nat} {a1 : Int32} (ha0 : isa G a0 9) : ∀ z, fX9_fewest (xln G) a0 a1 m0 = some z → xMet G l mX9_fewest d [.ref (xad G a0), .int a1] m0 (xrI z) := by
  refine xMet_of (by decide +kernel) hn hT (Nat.le_of_ble_eq_true rfl) (fun X F => ?_)
  refine xj_sub (lv' := [(0, .ref (xad G a0)), (1, .int a1)]) [0, 1] rfl ?_
  unfold fX9_fewest
  refine xj_aload_n F 0 dX9_fewest_0 rfl ?_
  refine xj_iconst F 0 dX9_fewest_1 (by decide) ?_
  refine xj_put F ha0 lpX9_91 dX9_fewest_2 (fun m1 => ?_)
  refine xj_aload_n F 0 dX9_fewest_5 rfl ?_
  refine xj_iload_n F 1 dX9_fewest_6 rfl ?_
  refine xj_iconst F 0 dX9_fewest_7 (by decide) ?_
  refine xj_iconst F 2 dX9_fewest_8 (by decide) ?_
  refine xj_callSI (As := [.int a1, .int 0, .int 2]) (d' := 0) F lmX9_155 rfl rfl (Nat.le_of_ble_eq_true rfl) (xfit (Nat.le_trans (Nat.le_of_ble_eq_true rfl) hdep)) dX9_fewest_9 (fun hT z hz => wX9_in (xnd F) (Nat.le_refl _) hT (a0 := a1) (a1 := 0) (a2 := 2)  z hz) (fun v3 m2 => ?_)
  refine xj_if_ne (tgt := 19) F dX9_fewest_12 (by decide) ?_ ?_
  · refine xj_iconst F 0 dX9_fewest_19 (by decide) ?_
    exact jX9_fewest_20 F hdep a0 a1 a0 0 m2 ha0 ha0
  · refine xj_iconst F 1 dX9_fewest_15 (by decide) ?_
    refine xj_goto (tgt := 20) F dX9_fewest_16 (by decide) ?_
    exact jX9_fewest_20 F hdep a0 a1 a0 1 m2 ha0 ha0
set_option maxRecDepth 20000 in
set_option maxHeartbeats 4000000 in
theorem jX9_bySum_104 {G : XG} {l : Launch} {d : Nat} {X : XX} (F : xF (xE G d) G X mX9_bySum) (hdep : 1 ≤ d) {e : Nat} {R : Nat → Nat → Int32 → XM → Option (Int32 × XM)} (hge : e + 0 + 1 ≤ d) (hR0 : ∀ {m0 : XM}, xT G m0 → ∀ {q : Nat}, isa G q 9 → ∀ (x0 : Int32) (z : Int32 × XM), R 0 q x0 m0 = some z → xMet G l mX9_bySum (e + 0) [.ref (xad G q), .int x0] m0 (xrI z)) (hR2 : ∀ {m0 : XM}, xT G m0 → ∀ {q : Nat}, isa G q 9 → ∀ (x0 : Int32) (z : Int32 × XM), R 2 q x0 m0 = some z → xMet G l mX9_byFunction (e + 0) [.ref (xad G q), .int x0] m0 (xrI z)) {r4 : Nat → Int32 → Int32 → XM → Option (Int32 × XM)} (hr4 : ∀ (q0 : Nat) (x2 : Int32) (x3 : Int32) (m0 : XM), isa G q0 9 → xJ (xE G d) (xQ xrI G X mX9_bySum) G l X mX9_bySum 4 [(0, .ref (xad G q0)), (2, .int x2), (3, .int x3)] [] m0 (r4 q0 x2 x3 m0)) : ∀ (q0 : Nat) (x2 : Int32) (x3 : Int32) (m0 : XM), isa G q0 9 → xJ (xE G d) (xQ xrI G X mX9_bySum) G l X mX9_bySum 104 [(0, .ref (xad G q0)), (2, .int x2), (3, .int x3)] [] m0 (fX9_bySum_104 (xln G) R r4 q0 x2 x3 m0) := by
  intro q0 x2 x3 m0 hq0
  unfold fX9_bySum_104
  refine xj_aload_n F 0 dX9_bySum_104 rfl ?_
  refine xj_getR F hq0 lgX9_20 dX9_bySum_105 (fun u1 hu1 => ?_)
  refine xj_iload_n F 2 dX9_bySum_108 rfl ?_
  refine xj_iconst F 4 dX9_bySum_109 (by decide) ?_
  refine xj_callSI (As := [.ref (xad G u1), .int x3, .int 4]) (d' := 0) F lmX9_254 rfl rfl (Nat.le_of_ble_eq_true rfl) (xfit (Nat.le_trans (Nat.le_of_ble_eq_true rfl) hdep)) dX9_bySum_110 (fun hT z hz => wX9_ofTerm (xnd F) (Nat.le_refl _) hT (a0 := u1) (a1 := x3) (a2 := 4) hu1 z hz) (fun v3 m2 => ?_)
  refine xj_istore_n (lv' := [(3, .int v3), (0, .ref (xad G q0)), (2, .int x2)]) F dX9_bySum_113 (by decide) rfl ?_
  refine xj_goto (tgt := 4) F dX9_bySum_114 (by decide) ?_
  refine xj_sub (lv' := [(0, .ref (xad G q0)), (2, .int x2), (3, .int v3)]) [1, 2, 0] rfl ?_
  exact hr4 q0 x2 v3 m2 hq0
set_option maxRecDepth 20000 in
set_option maxHeartbeats 4000000 in
theorem jX9_bySum_84 {G : XG} {l : Launch} {d : Nat} {X : XX} (F : xF (xE G d) G X mX9_bySum) (hdep : 1 ≤ d) {e : Nat} {R : Nat → Nat → Int32 → XM → Option (Int32 × XM)} (hge : e + 0 + 1 ≤ d) (hR0 : ∀ {m0 : XM}, xT G m0 → ∀ {q : Nat}, isa G q 9 → ∀ (x0 : Int32) (z : Int32 × XM), R 0 q x0 m0 = some z → xMet G l mX9_bySum (e + 0) [.ref (xad G q), .int x0] m0 (xrI z)) (hR2 : ∀ {m0 : XM}, xT G m0 → ∀ {q : Nat}, isa G q 9 → ∀ (x0 : Int32) (z : Int32 × XM), R 2 q x0 m0 = some z → xMet G l mX9_byFunction (e + 0) [.ref (xad G q), .int x0] m0 (xrI z)) {r4 : Nat → Int32 → Int32 → XM → Option (Int32 × XM)} (hr4 : ∀ (q0 : Nat) (x2 : Int32) (x3 : Int32) (m0 : XM), isa G q0 9 → xJ (xE G d) (xQ xrI G X mX9_bySum) G l X mX9_bySum 4 [(0, .ref (xad G q0)), (2, .int x2), (3, .int x3)] [] m0 (r4 q0 x2 x3 m0)) : ∀ (q0 : Nat) (x2 : Int32) (x3 : Int32) (x4 : Int32) (x5 : Int32) (x6 : Int32) (m0 : XM), isa G q0 9 → xJ (xE G d) (xQ xrI G X mX9_bySum) G l X mX9_bySum 84 [(0, .ref (xad G q0)), (2, .int x2), (3, .int x3), (4, .int x4), (5, .int x5), (6, .int x6)] [] m0 (fX9_bySum_84 (xln G) R r4 q0 x2 x3 x4 x5 x6 m0) := by
  intro q0 x2 x3 x4 x5 x6 m0 hq0
  unfold fX9_bySum_84
  refine xj_iload F 3 dX9_bySum_84 rfl ?_
  refine xj_iconst F 2 dX9_bySum_86 (by decide) ?_
  refine xj_icmp_ne (tgt := 104) F dX9_bySum_87 (by decide) ?_ ?_
  · refine xj_sub (lv' := [(0, .ref (xad G q0)), (2, .int x2), (3, .int x3)]) [0, 1, 2] rfl ?_
    exact jX9_bySum_104 F hdep hge hR0 hR2 hr4 q0 x2 x3 m0 hq0
  · refine xj_iload_n F 1 dX9_bySum_90 rfl ?_
    refine xj_iconst F 1 dX9_bySum_91 (by decide) ?_
    refine xj_iload F 4 dX9_bySum_92 rfl ?_
    refine xj_ishl F dX9_bySum_94 (fun v1 => ?_)
    refine xj_aload_n F 0 dX9_bySum_95 rfl ?_
    refine xj_iload F 5 dX9_bySum_96 rfl ?_
    refine xj_callVI (b := q0) (As := [.int x6]) (d' := e + 0) F hq0 lmX9_410 rfl rfl (Nat.le_of_ble_eq_true rfl) (xfit hge) dX9_bySum_98 (fun hT z hz => hR2 hT hq0 x6 z hz) (fun v3 m2 => ?_)
    refine xj_ior F dX9_bySum_101 (fun v4 => ?_)
    refine xj_ior F dX9_bySum_102 (fun v5 => ?_)
    refine xj_istore_n (lv' := [(2, .int v5), (0, .ref (xad G q0)), (3, .int x3), (4, .int x4), (5, .int x5), (6, .int x6)]) F dX9_bySum_103 (by decide) rfl ?_
    refine xj_sub (lv' := [(0, .ref (xad G q0)), (2, .int v5), (3, .int x3)]) [1, 0, 2] rfl ?_
    exact jX9_bySum_104 F hdep hge hR0 hR2 hr4 q0 v5 x3 m2 hq0
set_option maxRecDepth 20000 in
set_option maxHeartbeats 4000000 in
theorem jX9_bySum_57 {G : XG} {l : Launch} {d : Nat} {X : XX} (F : xF (xE G d) G X mX9_bySum) (hdep : 1 ≤ d) {e : Nat} {R : Nat → Nat → Int32 → XM → Option (Int32 × XM)} (hge : e + 0 + 1 ≤ d) (hR0 : ∀ {m0 : XM}, xT G m0 → ∀ {q : Nat}, isa G q 9 → ∀ (x0 : Int32) (z : Int32 × XM), R 0 q x0 m0 = some z → xMet G l mX9_bySum (e + 0) [.ref (xad G q), .int x0] m0 (xrI z)) (hR2 : ∀ {m0 : XM}, xT G m0 → ∀ {q : Nat}, isa G q 9 → ∀ (x0 : Int32) (z : Int32 × XM), R 2 q x0 m0 = some z → xMet G l mX9_byFunction (e + 0) [.ref (xad G q), .int x0] m0 (xrI z)) {r4 : Nat → Int32 → Int32 → XM → Option (Int32 × XM)} (hr4 : ∀ (q0 : Nat) (x2 : Int32) (x3 : Int32) (m0 : XM), isa G q0 9 → xJ (xE G d) (xQ xrI G X mX9_bySum) G l X mX9_bySum 4 [(0, .ref (xad G q0)), (2, .int x2), (3, .int x3)] [] m0 (r4 q0 x2 x3 m0)) : ∀ (q0 : Nat) (x2 : Int32) (x3 : Int32) (x4 : Int32) (x5 : Int32) (x6 : Int32) (m0 : XM), isa G q0 9 → xJ (xE G d) (xQ xrI G X mX9_bySum) G l X mX9_bySum 57 [(0, .ref (xad G q0)), (2, .int x2), (3, .int x3), (4, .int x4), (5, .int x5), (6, .int x6)] [] m0 (fX9_bySum_57 (xln G) R r4 q0 x2 x3 x4 x5 x6 m0) := by
  intro q0 x2 x3 x4 x5 x6 m0 hq0
  unfold fX9_bySum_57
  refine xj_iload F 3 dX9_bySum_57 rfl ?_
  refine xj_iconst F 1 dX9_bySum_59 (by decide) ?_
  refine xj_icmp_ne (tgt := 84) F dX9_bySum_60 (by decide) ?_ ?_
  · exact jX9_bySum_84 F hdep hge hR0 hR2 hr4 q0 x2 x3 x4 x5 x6 m0 hq0
  · refine xj_aload_n F 0 dX9_bySum_63 rfl ?_
    refine xj_getR F hq0 lgX9_20 dX9_bySum_64 (fun u1 hu1 => ?_)
    refine xj_iload F 5 dX9_bySum_67 rfl ?_
    refine xj_iconst F 0 dX9_bySum_69 (by decide) ?_
    refine xj_callSI (As := [.ref (xad G u1), .int x6, .int 0]) (d' := 0) F lmX9_104 rfl rfl (Nat.le_of_ble_eq_true rfl) (xfit (Nat.le_trans (Nat.le_of_ble_eq_true rfl) hdep)) dX9_bySum_70 (fun hT z hz => wX9_ofMember (xnd F) (Nat.le_refl _) hT (a0 := u1) (a1 := x6) (a2 := 0) hu1 z hz) (fun v3 m2 => ?_)
    refine xj_iconst F 1 dX9_bySum_73 (by decide) ?_
    refine xj_icmp_ne (tgt := 84) F dX9_bySum_74 (by decide) ?_ ?_
    · exact jX9_bySum_84 F hdep hge hR0 hR2 hr4 q0 x2 x3 x4 x5 x6 m2 hq0
    · refine xj_iload_n F 1 dX9_bySum_77 rfl ?_
      refine xj_iconst F 1 dX9_bySum_78 (by decide) ?_
      refine xj_iload F 4 dX9_bySum_79 rfl ?_
      refine xj_ishl F dX9_bySum_81 (fun v4 => ?_)
      refine xj_ior F dX9_bySum_82 (fun v5 => ?_)
      refine xj_istore_n (lv' := [(2, .int v5), (0, .ref (xad G q0)), (3, .int x3), (4, .int x4), (5, .int x5), (6, .int x6)]) F dX9_bySum_83 (by decide) rfl ?_
      refine xj_sub (lv' := [(0, .ref (xad G q0)), (2, .int v5), (3, .int x3), (4, .int x4), (5, .int x5), (6, .int x6)]) [1, 0, 2, 3, 4, 5] rfl ?_
      exact jX9_bySum_84 F hdep hge hR0 hR2 hr4 q0 v5 x3 x4 x5 x6 m2 hq0
set_option maxRecDepth 20000 in
set_option maxHeartbeats 4000000 in
theorem jX9_bySum_4 {G : XG} {l : Launch} {d : Nat} {X : XX} (F : xF (xE G d) G X mX9_bySum) (hdep : 1 ≤ d) {e : Nat} {R : Nat → Nat → Int32 → XM → Option (Int32 × XM)} (hge : e + 0 + 1 ≤ d) (hR0 : ∀ {m0 : XM}, xT G m0 → ∀ {q : Nat}, isa G q 9 → ∀ (x0 : Int32) (z : Int32 × XM), R 0 q x0 m0 = some z → xMet G l mX9_bySum (e + 0) [.ref (xad G q), .int x0] m0 (xrI z)) (hR2 : ∀ {m0 : XM}, xT G m0 → ∀ {q : Nat}, isa G q 9 → ∀ (x0 : Int32) (z : Int32 × XM), R 2 q x0 m0 = some z → xMet G l mX9_byFunction (e + 0) [.ref (xad G q), .int x0] m0 (xrI z)) : ∀ (n : Nat) (q0 : Nat) (x2 : Int32) (x3 : Int32) (m0 : XM), isa G q0 9 → xJ (xE G d) (xQ xrI G X mX9_bySum) G l X mX9_bySum 4 [(0, .ref (xad G q0)), (2, .int x2), (3, .int x3)] [] m0 (fX9_bySum_4 (xln G) R n q0 x2 x3 m0) := by
  intro n
  induction n with
  | zero => intro q0 x2 x3 m0 hq0; exact xj_none
  | succ n hr4 =>
    intro q0 x2 x3 m0 hq0
    unfold fX9_bySum_4
    generalize hrg4 : (fun q0 x2 x3 m0 => fX9_bySum_4 (xln G) R n q0 x2 x3 m0) = r4
    have hr4 : ∀ (q0 : Nat) (x2 : Int32) (x3 : Int32) (m0 : XM), isa G q0 9 → xJ (xE G d) (xQ xrI G X mX9_bySum) G l X mX9_bySum 4 [(0, .ref (xad G q0)), (2, .int x2), (3, .int x3)] [] m0 (r4 q0 x2 x3 m0) := by
      subst hrg4
      exact hr4
    clear hrg4
    refine xj_eq (xv_eq _ _) ?_
    refine xj_iload_n F 2 dX9_bySum_4 rfl ?_
    refine xj_iconst F (-1) dX9_bySum_5 (by decide) ?_
    refine xj_icmp_eq (tgt := 117) F dX9_bySum_6 (by decide) ?_ ?_
    · refine xj_iload_n F 1 dX9_bySum_117 rfl ?_
      exact xj_ret F rfl dX9_bySum_118
    · refine xj_aload_n F 0 dX9_bySum_9 rfl ?_
      refine xj_getR F hq0 lgX9_20 dX9_bySum_10 (fun u1 hu1 => ?_)
      refine xj_iload_n F 2 dX9_bySum_13 rfl ?_
      refine xj_iconst F 1 dX9_bySum_14 (by decide) ?_
      refine xj_callSI (As := [.ref (xad G u1), .int x3, .int 1]) (d' := 0) F lmX9_254 rfl rfl (Nat.le_of_ble_eq_true rfl) (xfit (Nat.le_trans (Nat.le_of_ble_eq_true rfl) hdep)) dX9_bySum_15 (fun hT z hz => wX9_ofTerm (xnd F) (Nat.le_refl _) hT (a0 := u1) (a1 := x3) (a2 := 1) hu1 z hz) (fun v3 m2 => ?_)
      refine xj_istore (lv' := [(4, .int v3), (0, .ref (xad G q0)), (2, .int x2), (3, .int x3)]) F dX9_bySum_18 (by decide) rfl ?_
      refine xj_aload_n F 1 dX9_bySum_20 rfl ?_
      refine xj_getR F hq0 lgX9_20 dX9_bySum_21 (fun u4 hu4 => ?_)
      refine xj_iload_n F 3 dX9_bySum_24 rfl ?_
      refine xj_iconst F 2 dX9_bySum_25 (by decide) ?_
      refine xj_callSI (As := [.ref (xad G u4), .int x3, .int 2]) (d' := 0) F lmX9_254 rfl rfl (Nat.le_of_ble_eq_true rfl) (xfit (Nat.le_trans (Nat.le_of_ble_eq_true rfl) hdep)) dX9_bySum_26 (fun hT z hz => wX9_ofTerm (xnd F) (Nat.le_refl _) hT (a0 := u4) (a1 := x3) (a2 := 2) hu4 z hz) (fun v6 m5 => ?_)
      refine xj_istore (lv' := [(5, .int v6), (4, .int v3), (0, .ref (xad G q0)), (2, .int x2), (3, .int x3)]) F dX9_bySum_29 (by decide) rfl ?_
      refine xj_aload_n F 2 dX9_bySum_31 rfl ?_
      refine xj_getR F hq0 lgX9_20 dX9_bySum_32 (fun u7 hu7 => ?_)
      refine xj_iload_n F 4 dX9_bySum_35 rfl ?_
      refine xj_iconst F 3 dX9_bySum_36 (by decide) ?_
      refine xj_callSI (As := [.ref (xad G u7), .int x3, .int 3]) (d' := 0) F lmX9_254 rfl rfl (Nat.le_of_ble_eq_true rfl) (xfit (Nat.le_trans (Nat.le_of_ble_eq_true rfl) hdep)) dX9_bySum_37 (fun hT z hz => wX9_ofTerm (xnd F) (Nat.le_refl _) hT (a0 := u7) (a1 := x3) (a2 := 3) hu7 z hz) (fun v9 m8 => ?_)
      refine xj_istore (lv' := [(6, .int v9), (5, .int v6), (4, .int v3), (0, .ref (xad G q0)), (2, .int x2), (3, .int x3)]) F dX9_bySum_40 (by decide) rfl ?_
      refine xj_iload F 2 dX9_bySum_42 rfl ?_
      refine xj_iconst F 4 dX9_bySum_44 (by decide) ?_
      refine xj_icmp_ne (tgt := 57) F dX9_bySum_45 (by decide) ?_ ?_
      · refine xj_sub (lv' := [(0, .ref (xad G q0)), (2, .int x2), (3, .int x3), (4, .int v3), (5, .int v6), (6, .int v9)]) [3, 4, 5, 2, 1, 0] rfl ?_
        exact jX9_bySum_57 F hdep hge hR0 hR2 hr4 q0 x2 x3 v3 v6 v9 m8 hq0
      · refine xj_iload_n F 4 dX9_bySum_48 rfl ?_
        refine xj_aload_n F 3 dX9_bySum_49 rfl ?_
        refine xj_iload F 1 dX9_bySum_50 rfl ?_
        refine xj_callVI (b := q0) (As := [.int v6]) (d' := e + 0) F hq0 lmX9_407 rfl rfl (Nat.le_of_ble_eq_true rfl) (xfit hge) dX9_bySum_52 (fun hT z hz => hR0 hT hq0 v6 z hz) (fun v11 m10 => ?_)
        refine xj_ior F dX9_bySum_55 (fun v12 => ?_)
        refine xj_istore_n (lv' := [(2, .int v12), (6, .int v9), (5, .int v6), (4, .int v3), (0, .ref (xad G q0)), (3, .int x3)]) F dX9_bySum_56 (by decide) rfl ?_
        refine xj_sub (lv' := [(0, .ref (xad G q0)), (2, .int v12), (3, .int x3), (4, .int v3), (5, .int v6), (6, .int v9)]) [4, 0, 5, 3, 2, 1] rfl ?_
        exact jX9_bySum_57 F hdep hge hR0 hR2 hr4 q0 v12 x3 v3 v6 v9 m10 hq0
set_option maxRecDepth 20000 in
set_option maxHeartbeats 4000000 in
theorem wX9_bySum {G : XG} {l : Launch} {d : Nat} (hn : xN G) (hdep : 1 ≤ d) {e : Nat} {R : Nat → Nat → Int32 → XM → Option (Int32 × XM)} (hge : e + 0 + 1 ≤ d) (hR0 : ∀ {m0 : XM}, xT G m0 → ∀ {q : Nat}, isa G q 9 → ∀ (x0 : Int32) (z : Int32 × XM), R 0 q x0 m0 = some z → xMet G l mX9_bySum (e + 0) [.ref (xad G q), .int x0] m0 (xrI z)) (hR2 : ∀ {m0 : XM}, xT G m0 → ∀ {q : Nat}, isa G q 9 → ∀ (x0 : Int32) (z : Int32 × XM), R 2 q x0 m0 = some z → xMet G l mX9_byFunction (e + 0) [.ref (xad G q), .int x0] m0 (xrI z)) {m0 : XM} (hT : xT G m0) {a0 : Nat} {a1 : Int32} (ha0 : isa G a0 9) : ∀ z, fX9_bySum (xln G) R a0 a1 m0 = some z → xMet G l mX9_bySum d [.ref (xad G a0), .int a1] m0 (xrI z) := by
  refine xMet_of (by decide +kernel) hn hT (Nat.le_of_ble_eq_true rfl) (fun X F => ?_)
  refine xj_sub (lv' := [(0, .ref (xad G a0)), (1, .int a1)]) [0, 1] rfl ?_
  unfold fX9_bySum
  refine xj_iconst F 0 dX9_bySum_0 (by decide) ?_
  refine xj_istore_n (lv' := [(2, .int 0), (0, .ref (xad G a0)), (1, .int a1)]) F dX9_bySum_1 (by decide) rfl ?_
  refine xj_iload_n F 2 dX9_bySum_2 rfl ?_
  refine xj_istore_n (lv' := [(3, .int a1), (2, .int 0), (0, .ref (xad G a0)), (1, .int a1)]) F dX9_bySum_3 (by decide) rfl ?_
  refine xj_sub (lv' := [(0, .ref (xad G a0)), (2, .int 0), (3, .int a1)]) [2, 1, 0] rfl ?_
  exact jX9_bySum_4 F hdep hge hR0 hR2 XF a0 0 a1 m0 ha0
set_option maxRecDepth 20000 in
set_option maxHeartbeats 4000000 in
theorem wX9_byAct {G : XG} {l : Launch} {d : Nat} (hn : xN G) (hdep : 1 ≤ d) {e : Nat} {R : Nat → Nat → Int32 → XM → Option (Int32 × XM)} (hge : e + 0 + 1 ≤ d) (hR0 : ∀ {m0 : XM}, xT G m0 → ∀ {q : Nat}, isa G q 9 → ∀ (x0 : Int32) (z : Int32 × XM), R 0 q x0 m0 = some z → xMet G l mX9_bySum (e + 0) [.ref (xad G q), .int x0] m0 (xrI z)) {m0 : XM} (hT : xT G m0) {a0 : Nat} {a1 : Int32} (ha0 : isa G a0 9) : ∀ z, fX9_byAct (xln G) R a0 a1 m0 = some z → xMet G l mX9_byAct d [.ref (xad G a0), .int a1] m0 (xrI z) := by
  refine xMet_of (by decide +kernel) hn hT (Nat.le_of_ble_eq_true rfl) (fun X F => ?_)
  refine xj_sub (lv' := [(0, .ref (xad G a0)), (1, .int a1)]) [0, 1] rfl ?_
  unfold fX9_byAct
  refine xj_aload_n F 0 dX9_byAct_0 rfl ?_
  refine xj_aload_n F 0 dX9_byAct_1 rfl ?_
  refine xj_getR F ha0 lgX9_20 dX9_byAct_2 (fun u1 hu1 => ?_)
  refine xj_iload_n F 1 dX9_byAct_5 rfl ?_
  refine xj_iconst F 2 dX9_byAct_6 (by decide) ?_
  refine xj_callSI (As := [.ref (xad G u1), .int a1, .int 2]) (d' := 0) F lmX9_244 rfl rfl (Nat.le_of_ble_eq_true rfl) (xfit (Nat.le_trans (Nat.le_of_ble_eq_true rfl) hdep)) dX9_byAct_7 (fun hT z hz => wX9_ofAct (xnd F) (Nat.le_refl _) hT (a0 := u1) (a1 := a1) (a2 := 2) hu1 z hz) (fun v3 m2 => ?_)
  refine xj_callVI (b := a0) (As := [.int v3]) (d' := e + 0) F ha0 lmX9_407 rfl rfl (Nat.le_of_ble_eq_true rfl) (xfit hge) dX9_byAct_10 (fun hT z hz => hR0 hT ha0 v3 z hz) (fun v5 m4 => ?_)
  refine xj_aload_n F 0 dX9_byAct_13 rfl ?_
  refine xj_getR F ha0 lgX9_20 dX9_byAct_14 (fun u6 hu6 => ?_)
  refine xj_iload_n F 1 dX9_byAct_17 rfl ?_
  refine xj_iconst F 0 dX9_byAct_18 (by decide) ?_
  refine xj_callSI (As := [.ref (xad G u6), .int a1, .int 0]) (d' := 0) F lmX9_244 rfl rfl (Nat.le_of_ble_eq_true rfl) (xfit (Nat.le_trans (Nat.le_of_ble_eq_true rfl) hdep)) dX9_byAct_19 (fun hT z hz => wX9_ofAct (xnd F) (Nat.le_refl _) hT (a0 := u6) (a1 := a1) (a2 := 0) hu6 z hz) (fun v8 m7 => ?_)
  refine xj_iconst F (-1) dX9_byAct_22 (by decide) ?_
  refine xj_icmp_ne (tgt := 30) F dX9_byAct_23 (by decide) ?_ ?_
  · refine xj_iconst F 1 dX9_byAct_30 (by decide) ?_
    refine xj_aload_n F 0 dX9_byAct_31 rfl ?_
    refine xj_getR F ha0 lgX9_20 dX9_byAct_32 (fun u9 hu9 => ?_)
    refine xj_iload_n F 1 dX9_byAct_35 rfl ?_
    refine xj_iconst F 0 dX9_byAct_36 (by decide) ?_
    refine xj_callSI (As := [.ref (xad G u9), .int a1, .int 0]) (d' := 0) F lmX9_244 rfl rfl (Nat.le_of_ble_eq_true rfl) (xfit (Nat.le_trans (Nat.le_of_ble_eq_true rfl) hdep)) dX9_byAct_37 (fun hT z hz => wX9_ofAct (xnd F) (Nat.le_refl _) hT (a0 := u9) (a1 := a1) (a2 := 0) hu9 z hz) (fun v11 m10 => ?_)
    refine xj_ishl F dX9_byAct_40 (fun v12 => ?_)
    refine xj_ior F dX9_byAct_41 (fun v13 => ?_)
    exact xj_ret F rfl dX9_byAct_42
  · refine xj_iconst F 0 dX9_byAct_26 (by decide) ?_
    refine xj_goto (tgt := 41) F dX9_byAct_27 (by decide) ?_
    refine xj_ior F dX9_byAct_41 (fun v14 => ?_)
    exact xj_ret F rfl dX9_byAct_42
set_option maxRecDepth 20000 in
set_option maxHeartbeats 4000000 in
theorem jX9_byFunction_34 {G : XG} {l : Launch} {d : Nat} {X : XX} (F : xF (xE G d) G X mX9_byFunction) (hdep : 1 ≤ d) {e : Nat} {R : Nat → Nat → Int32 → XM → Option (Int32 × XM)} (hge : e + 0 + 1 ≤ d) (hR0 : ∀ {m0 : XM}, xT G m0 → ∀ {q : Nat}, isa G q 9 → ∀ (x0 : Int32) (z : Int32 × XM), R 0 q x0 m0 = some z → xMet G l mX9_bySum (e + 0) [.ref (xad G q), .int x0] m0 (xrI z)) (hR1 : ∀ {m0 : XM}, xT G m0 → ∀ {q : Nat}, isa G q 9 → ∀ (x0 : Int32) (z : Int32 × XM), R 1 q x0 m0 = some z → xMet G l mX9_byAct (e + 0) [.ref (xad G q), .int x0] m0 (xrI z)) : ∀ (n : Nat) (q0 : Nat) (x1 : Int32) (x2 : Int32) (x3 : Int32) (m0 : XM), isa G q0 9 → xJ (xE G d) (xQ xrI G X mX9_byFunction) G l X mX9_byFunction 34 [(0, .ref (xad G q0)), (1, .int x1), (2, .int x2), (3, .int x3)] [] m0 (fX9_byFunction_34 (xln G) R n q0 x1 x2 x3 m0) := by
  intro n
  induction n with
  | zero => intro q0 x1 x2 x3 m0 hq0; exact xj_none
  | succ n hr34 =>
    intro q0 x1 x2 x3 m0 hq0
    unfold fX9_byFunction_34
    generalize hrg34 : (fun q0 x1 x2 x3 m0 => fX9_byFunction_34 (xln G) R n q0 x1 x2 x3 m0) = r34
    have hr34 : ∀ (q0 : Nat) (x1 : Int32) (x2 : Int32) (x3 : Int32) (m0 : XM), isa G q0 9 → xJ (xE G d) (xQ xrI G X mX9_byFunction) G l X mX9_byFunction 34 [(0, .ref (xad G q0)), (1, .int x1), (2, .int x2), (3, .int x3)] [] m0 (r34 q0 x1 x2 x3 m0) := by
      subst hrg34
      exact hr34
    clear hrg34
    refine xj_eq (xv_eq _ _) ?_
    refine xj_iload_n F 3 dX9_byFunction_34 rfl ?_
    refine xj_aload_n F 0 dX9_byFunction_35 rfl ?_
    refine xj_getR F hq0 lgX9_20 dX9_byFunction_36 (fun u1 hu1 => ?_)
    refine xj_iload_n F 1 dX9_byFunction_39 rfl ?_
    refine xj_iconst F 3 dX9_byFunction_40 (by decide) ?_
    refine xj_callSI (As := [.ref (xad G u1), .int x1, .int 3]) (d' := 0) F lmX9_104 rfl rfl (Nat.le_of_ble_eq_true rfl) (xfit (Nat.le_trans (Nat.le_of_ble_eq_true rfl) hdep)) dX9_byFunction_41 (fun hT z hz => wX9_ofMember (xnd F) (Nat.le_refl _) hT (a0 := u1) (a1 := x1) (a2 := 3) hu1 z hz) (fun v3 m2 => ?_)
    refine xj_icmp_ge (tgt := 71) F dX9_byFunction_44 (by decide) ?_ ?_
    · refine xj_iload_n F 2 dX9_byFunction_71 rfl ?_
      exact xj_ret F rfl dX9_byFunction_72
    · refine xj_iload_n F 2 dX9_byFunction_47 rfl ?_
      refine xj_aload_n F 0 dX9_byFunction_48 rfl ?_
      refine xj_aload_n F 0 dX9_byFunction_49 rfl ?_
      refine xj_getR F hq0 lgX9_20 dX9_byFunction_50 (fun u4 hu4 => ?_)
      refine xj_iload_n F 1 dX9_byFunction_53 rfl ?_
      refine xj_iconst F 4 dX9_byFunction_54 (by decide) ?_
      refine xj_callSI (As := [.ref (xad G u4), .int x1, .int 4]) (d' := 0) F lmX9_104 rfl rfl (Nat.le_of_ble_eq_true rfl) (xfit (Nat.le_trans (Nat.le_of_ble_eq_true rfl) hdep)) dX9_byFunction_55 (fun hT z hz => wX9_ofMember (xnd F) (Nat.le_refl _) hT (a0 := u4) (a1 := x1) (a2 := 4) hu4 z hz) (fun v6 m5 => ?_)
      refine xj_iload_n F 3 dX9_byFunction_58 rfl ?_
      refine xj_iadd F dX9_byFunction_59 (fun v7 => ?_)
      refine xj_callVI (b := q0) (As := [.int v7]) (d' := e + 0) F hq0 lmX9_413 rfl rfl (Nat.le_of_ble_eq_true rfl) (xfit hge) dX9_byFunction_60 (fun hT z hz => hR1 hT hq0 v7 z hz) (fun v9 m8 => ?_)
      refine xj_ior F dX9_byFunction_63 (fun v10 => ?_)
      refine xj_istore_n (lv' := [(2, .int v10), (0, .ref (xad G q0)), (1, .int x1), (3, .int x3)]) F dX9_byFunction_64 (by decide) rfl ?_
      refine xj_iinc F 3 1 (fun v11 => [(3, .int v11), (2, .int v10), (0, .ref (xad G q0)), (1, .int x1)]) dX9_byFunction_65 rfl (by decide) (by decide) (fun _ => rfl) (fun v11 => ?_)
      refine xj_goto (tgt := 34) F dX9_byFunction_68 (by decide) ?_
      refine xj_sub (lv' := [(0, .ref (xad G q0)), (1, .int x1), (2, .int v10), (3, .int v11)]) [2, 3, 1, 0] rfl ?_
      exact hr34 q0 x1 v10 v11 m8 hq0
set_option maxRecDepth 20000 in
set_option maxHeartbeats 4000000 in
theorem wX9_byFunction {G : XG} {l : Launch} {d : Nat} (hn : xN G) (hdep : 1 ≤ d) {e : Nat} {R : Nat → Nat → Int32 → XM → Option (Int32 × XM)} (hge : e + 0 + 1 ≤ d) (hR0 : ∀ {m0 : XM}, xT G m0 → ∀ {q : Nat}, isa G q 9 → ∀ (x0 : Int32) (z : Int32 × XM), R 0 q x0 m0 = some z → xMet G l mX9_bySum (e + 0) [.ref (xad G q), .int x0] m0 (xrI z)) (hR1 : ∀ {m0 : XM}, xT G m0 → ∀ {q : Nat}, isa G q 9 → ∀ (x0 : Int32) (z : Int32 × XM), R 1 q x0 m0 = some z → xMet G l mX9_byAct (e + 0) [.ref (xad G q), .int x0] m0 (xrI z)) {m0 : XM} (hT : xT G m0) {a0 : Nat} {a1 : Int32} (ha0 : isa G a0 9) : ∀ z, fX9_byFunction (xln G) R a0 a1 m0 = some z → xMet G l mX9_byFunction d [.ref (xad G a0), .int a1] m0 (xrI z) := by
  refine xMet_of (by decide +kernel) hn hT (Nat.le_of_ble_eq_true rfl) (fun X F => ?_)
  refine xj_sub (lv' := [(0, .ref (xad G a0)), (1, .int a1)]) [0, 1] rfl ?_
  unfold fX9_byFunction
  refine xj_aload_n F 0 dX9_byFunction_0 rfl ?_
  refine xj_getR F ha0 lgX9_85 dX9_byFunction_1 (fun u1 hu1 => ?_)
  refine xj_iload_n F 1 dX9_byFunction_4 rfl ?_
  refine xj_zald F hu1 dX9_byFunction_5 (fun v2 => ?_)
  refine xj_if_eq (tgt := 11) F dX9_byFunction_6 (by decide) ?_ ?_
  · refine xj_aload_n F 0 dX9_byFunction_11 rfl ?_
    refine xj_getR F ha0 lgX9_85 dX9_byFunction_12 (fun u3 hu3 => ?_)
    refine xj_iload_n F 1 dX9_byFunction_15 rfl ?_
    refine xj_iconst F 1 dX9_byFunction_16 (by decide) ?_
    refine xj_zast F hu3 dX9_byFunction_17 (fun m4 => ?_)
    refine xj_aload_n F 0 dX9_byFunction_18 rfl ?_
    refine xj_aload_n F 0 dX9_byFunction_19 rfl ?_
    refine xj_getR F ha0 lgX9_20 dX9_byFunction_20 (fun u5 hu5 => ?_)
    refine xj_iload_n F 1 dX9_byFunction_23 rfl ?_
    refine xj_iconst F 2 dX9_byFunction_24 (by decide) ?_
    refine xj_callSI (As := [.ref (xad G u5), .int a1, .int 2]) (d' := 0) F lmX9_104 rfl rfl (Nat.le_of_ble_eq_true rfl) (xfit (Nat.le_trans (Nat.le_of_ble_eq_true rfl) hdep)) dX9_byFunction_25 (fun hT z hz => wX9_ofMember (xnd F) (Nat.le_refl _) hT (a0 := u5) (a1 := a1) (a2 := 2) hu5 z hz) (fun v7 m6 => ?_)
    refine xj_callVI (b := a0) (As := [.int v7]) (d' := e + 0) F ha0 lmX9_407 rfl rfl (Nat.le_of_ble_eq_true rfl) (xfit hge) dX9_byFunction_28 (fun hT z hz => hR0 hT ha0 v7 z hz) (fun v9 m8 => ?_)
    refine xj_istore_n (lv' := [(2, .int v9), (0, .ref (xad G a0)), (1, .int a1)]) F dX9_byFunction_31 (by decide) rfl ?_
    refine xj_iconst F 0 dX9_byFunction_32 (by decide) ?_
    refine xj_istore_n (lv' := [(3, .int 0), (2, .int v9), (0, .ref (xad G a0)), (1, .int a1)]) F dX9_byFunction_33 (by decide) rfl ?_
    refine xj_sub (lv' := [(0, .ref (xad G a0)), (1, .int a1), (2, .int v9), (3, .int 0)]) [2, 3, 1, 0] rfl ?_
    exact jX9_byFunction_34 F hdep hge hR0 hR1 XF a0 a1 v9 0 m8 ha0
  · refine xj_iconst F 0 dX9_byFunction_9 (by decide) ?_
    exact xj_ret F rfl dX9_byFunction_10
set_option maxRecDepth 20000 in
set_option maxHeartbeats 4000000 in
theorem gwX9_bySum {G : XG} {l : Launch} (hn : xN G) : ∀ (e : Nat), (∀ {m0 : XM}, xT G m0 → ∀ {q : Nat}, isa G q 9 → ∀ (x0 : Int32) (z : Int32 × XM), gX9_bySum (xln G) e 0 q x0 m0 = some z → xMet G l mX9_bySum (e + 0) [.ref (xad G q), .int x0] m0 (xrI z)) ∧ (∀ {m0 : XM}, xT G m0 → ∀ {q : Nat}, isa G q 9 → ∀ (x0 : Int32) (z : Int32 × XM), gX9_bySum (xln G) e 1 q x0 m0 = some z → xMet G l mX9_byAct (e + 0) [.ref (xad G q), .int x0] m0 (xrI z)) ∧ (∀ {m0 : XM}, xT G m0 → ∀ {q : Nat}, isa G q 9 → ∀ (x0 : Int32) (z : Int32 × XM), gX9_bySum (xln G) e 2 q x0 m0 = some z → xMet G l mX9_byFunction (e + 0) [.ref (xad G q), .int x0] m0 (xrI z)) := by
  intro e
  induction e with
  | zero => exact ⟨(by intro m0 hT q hq x0 z hz; unfold gX9_bySum at hz; cases hz), (by intro m0 hT q hq x0 z hz; unfold gX9_bySum at hz; cases hz), (by intro m0 hT q hq x0 z hz; unfold gX9_bySum at hz; cases hz)⟩
  | succ e ih =>
    generalize hRg : (fun t q x0 m0 => gX9_bySum (xln G) e t q x0 m0) = R
    have hR0 : ∀ {m0 : XM}, xT G m0 → ∀ {q : Nat}, isa G q 9 → ∀ (x0 : Int32) (z : Int32 × XM), R 0 q x0 m0 = some z → xMet G l mX9_bySum (e + 0) [.ref (xad G q), .int x0] m0 (xrI z) := by
      subst hRg
      exact ih.1
    have hR1 : ∀ {m0 : XM}, xT G m0 → ∀ {q : Nat}, isa G q 9 → ∀ (x0 : Int32) (z : Int32 × XM), R 1 q x0 m0 = some z → xMet G l mX9_byAct (e + 0) [.ref (xad G q), .int x0] m0 (xrI z) := by
      subst hRg
      exact ih.2.1
    have hR2 : ∀ {m0 : XM}, xT G m0 → ∀ {q : Nat}, isa G q 9 → ∀ (x0 : Int32) (z : Int32 × XM), R 2 q x0 m0 = some z → xMet G l mX9_byFunction (e + 0) [.ref (xad G q), .int x0] m0 (xrI z) := by
      subst hRg
      exact ih.2.2
    have p0 : ∀ {m0 : XM}, xT G m0 → ∀ {q : Nat}, isa G q 9 → ∀ (x0 : Int32) (z : Int32 × XM), gX9_bySum (xln G) (e + 1) 0 q x0 m0 = some z → xMet G l mX9_bySum (e + 1 + 0) [.ref (xad G q), .int x0] m0 (xrI z) := by
      intro m0 hT q hq x0 z hz
      unfold gX9_bySum at hz
      rw [hRg] at hz
      have hz := hz
      simp only [xv, if_pos (show 0 = 0 from rfl)] at hz
      exact wX9_bySum hn (by omega) (e := e) (R := R) (by omega) hR0 hR2 hT (a0 := q) (a1 := x0) hq z hz
    have p1 : ∀ {m0 : XM}, xT G m0 → ∀ {q : Nat}, isa G q 9 → ∀ (x0 : Int32) (z : Int32 × XM), gX9_bySum (xln G) (e + 1) 1 q x0 m0 = some z → xMet G l mX9_byAct (e + 1 + 0) [.ref (xad G q), .int x0] m0 (xrI z) := by
      intro m0 hT q hq x0 z hz
      unfold gX9_bySum at hz
      rw [hRg] at hz
      have hz := hz
      simp only [xv, if_neg (show ¬ 1 = 0 by decide), if_pos (show 1 = 1 from rfl)] at hz
      exact wX9_byAct hn (by omega) (e := e) (R := R) (by omega) hR0 hT (a0 := q) (a1 := x0) hq z hz
    have p2 : ∀ {m0 : XM}, xT G m0 → ∀ {q : Nat}, isa G q 9 → ∀ (x0 : Int32) (z : Int32 × XM), gX9_bySum (xln G) (e + 1) 2 q x0 m0 = some z → xMet G l mX9_byFunction (e + 1 + 0) [.ref (xad G q), .int x0] m0 (xrI z) := by
      intro m0 hT q hq x0 z hz
      unfold gX9_bySum at hz
      rw [hRg] at hz
      have hz := hz
      simp only [xv, if_neg (show ¬ 2 = 0 by decide), if_neg (show ¬ 2 = 1 by decide), if_pos (show 2 = 2 from rfl)] at hz
      exact wX9_byFunction hn (by omega) (e := e) (R := R) (by omega) hR0 hR1 hT (a0 := q) (a1 := x0) hq z hz
    exact ⟨p0, p1, p2⟩
set_option maxRecDepth 20000 in
set_option maxHeartbeats 4000000 in
theorem jX9_touched_148 {G : XG} {l : Launch} {d : Nat} {X : XX} (F : xF (xE G d) G X mX9_touched) (hdep : 1001 ≤ d) {r52 : Nat → Int32 → Int32 → Int32 → XM → Option (Int32 × XM)} (hr52 : ∀ (q0 : Nat) (x1 : Int32) (x2 : Int32) (x3 : Int32) (m0 : XM), isa G q0 9 → xJ (xE G d) (xQ xrI G X mX9_touched) G l X mX9_touched 52 [(0, .ref (xad G q0)), (1, .int x1), (2, .int x2), (3, .int x3)] [] m0 (r52 q0 x1 x2 x3 m0)) : ∀ (q0 : Nat) (x1 : Int32) (x2 : Int32) (x3 : Int32) (m0 : XM), isa G q0 9 → xJ (xE G d) (xQ xrI G X mX9_touched) G l X mX9_touched 148 [(0, .ref (xad G q0)), (1, .int x1), (2, .int x2), (3, .int x3)] [] m0 (fX9_touched_148 (xln G) r52 q0 x1 x2 x3 m0) := by
  intro q0 x1 x2 x3 m0 hq0
  unfold fX9_touched_148
  refine xj_iinc F 3 1 (fun v1 => [(3, .int v1), (0, .ref (xad G q0)), (1, .int x1), (2, .int x2)]) dX9_touched_148 rfl (by decide) (by decide) (fun _ => rfl) (fun v1 => ?_)
  refine xj_goto (tgt := 52) F dX9_touched_151 (by decide) ?_
  refine xj_sub (lv' := [(0, .ref (xad G q0)), (1, .int x1), (2, .int x2), (3, .int v1)]) [1, 2, 3, 0] rfl ?_
  exact hr52 q0 x1 x2 v1 m0 hq0
set_option maxRecDepth 20000 in
set_option maxHeartbeats 4000000 in
theorem jX9_touched_146 {G : XG} {l : Launch} {d : Nat} {X : XX} (F : xF (xE G d) G X mX9_touched) (hdep : 1001 ≤ d) {r52 : Nat → Int32 → Int32 → Int32 → XM → Option (Int32 × XM)} (hr52 : ∀ (q0 : Nat) (x1 : Int32) (x2 : Int32) (x3 : Int32) (m0 : XM), isa G q0 9 → xJ (xE G d) (xQ xrI G X mX9_touched) G l X mX9_touched 52 [(0, .ref (xad G q0)), (1, .int x1), (2, .int x2), (3, .int x3)] [] m0 (r52 q0 x1 x2 x3 m0)) : ∀ (q0 : Nat) (x1 : Int32) (x3 : Int32) (s0 : Int32) (s1 : Int32) (m0 : XM), isa G q0 9 → xJ (xE G d) (xQ xrI G X mX9_touched) G l X mX9_touched 146 [(0, .ref (xad G q0)), (1, .int x1), (3, .int x3)] [.int s1, .int s0] m0 (fX9_touched_146 (xln G) r52 q0 x1 x3 s0 s1 m0) := by
  intro q0 x1 x3 s0 s1 m0 hq0
  unfold fX9_touched_146
  refine xj_ior F dX9_touched_146 (fun v1 => ?_)
  refine xj_istore_n (lv' := [(2, .int v1), (0, .ref (xad G q0)), (1, .int x1), (3, .int x3)]) F dX9_touched_147 (by decide) rfl ?_
  refine xj_sub (lv' := [(0, .ref (xad G q0)), (1, .int x1), (2, .int v1), (3, .int x3)]) [1, 2, 0, 3] rfl ?_
  exact jX9_touched_148 F hdep hr52 q0 x1 v1 x3 m0 hq0
set_option maxRecDepth 20000 in
set_option maxHeartbeats 4000000 in
theorem jX9_touched_52 {G : XG} {l : Launch} {d : Nat} {X : XX} (F : xF (xE G d) G X mX9_touched) (hdep : 1001 ≤ d) : ∀ (n : Nat) (q0 : Nat) (x1 : Int32) (x2 : Int32) (x3 : Int32) (m0 : XM), isa G q0 9 → xJ (xE G d) (xQ xrI G X mX9_touched) G l X mX9_touched 52 [(0, .ref (xad G q0)), (1, .int x1), (2, .int x2), (3, .int x3)] [] m0 (fX9_touched_52 (xln G) n q0 x1 x2 x3 m0) := by
  intro n
  induction n with
  | zero => intro q0 x1 x2 x3 m0 hq0; exact xj_none
  | succ n hr52 =>
    intro q0 x1 x2 x3 m0 hq0
    unfold fX9_touched_52
    generalize hrg52 : (fun q0 x1 x2 x3 m0 => fX9_touched_52 (xln G) n q0 x1 x2 x3 m0) = r52
    have hr52 : ∀ (q0 : Nat) (x1 : Int32) (x2 : Int32) (x3 : Int32) (m0 : XM), isa G q0 9 → xJ (xE G d) (xQ xrI G X mX9_touched) G l X mX9_touched 52 [(0, .ref (xad G q0)), (1, .int x1), (2, .int x2), (3, .int x3)] [] m0 (r52 q0 x1 x2 x3 m0) := by
      subst hrg52
      exact hr52
    clear hrg52
    refine xj_eq (xv_eq _ _) ?_
    refine xj_iload_n F 3 dX9_touched_52 rfl ?_
    refine xj_aload_n F 0 dX9_touched_53 rfl ?_
    refine xj_getR F hq0 lgX9_20 dX9_touched_54 (fun u1 hu1 => ?_)
    refine xj_iload_n F 1 dX9_touched_57 rfl ?_
    refine xj_iconst F 2 dX9_touched_58 (by decide) ?_
    refine xj_callSI (As := [.ref (xad G u1), .int x1, .int 2]) (d' := 0) F lmX9_97 rfl rfl (Nat.le_of_ble_eq_true rfl) (xfit (Nat.le_trans (Nat.le_of_ble_eq_true rfl) hdep)) dX9_touched_59 (fun hT z hz => wX9_unitOf (xnd F) (Nat.le_refl _) hT (a0 := u1) (a1 := x1) (a2 := 2) hu1 z hz) (fun v3 m2 => ?_)
    refine xj_icmp_ge (tgt := 154) F dX9_touched_62 (by decide) ?_ ?_
    · refine xj_iload_n F 2 dX9_touched_154 rfl ?_
      exact xj_ret F rfl dX9_touched_155
    · refine xj_aload_n F 0 dX9_touched_65 rfl ?_
      refine xj_getR F hq0 lgX9_20 dX9_touched_66 (fun u4 hu4 => ?_)
      refine xj_iload_n F 1 dX9_touched_69 rfl ?_
      refine xj_iload_n F 3 dX9_touched_70 rfl ?_
      refine xj_callSI (As := [.ref (xad G u4), .int x1, .int x3]) (d' := 0) F lmX9_101 rfl rfl (Nat.le_of_ble_eq_true rfl) (xfit (Nat.le_trans (Nat.le_of_ble_eq_true rfl) hdep)) dX9_touched_71 (fun hT z hz => wX9_memberAt (xnd F) (Nat.le_refl _) hT (a0 := u4) (a1 := x1) (a2 := x3) hu4 z hz) (fun v6 m5 => ?_)
      refine xj_istore (lv' := [(4, .int v6), (0, .ref (xad G q0)), (1, .int x1), (2, .int x2), (3, .int x3)]) F dX9_touched_74 (by decide) rfl ?_
      refine xj_aload_n F 1 dX9_touched_76 rfl ?_
      refine xj_getR F hq0 lgX9_20 dX9_touched_77 (fun u7 hu7 => ?_)
      refine xj_iload F 0 dX9_touched_80 rfl ?_
      refine xj_iconst F 0 dX9_touched_82 (by decide) ?_
      refine xj_callSI (As := [.ref (xad G u7), .int v6, .int 0]) (d' := 0) F lmX9_104 rfl rfl (Nat.le_of_ble_eq_true rfl) (xfit (Nat.le_trans (Nat.le_of_ble_eq_true rfl) hdep)) dX9_touched_83 (fun hT z hz => wX9_ofMember (xnd F) (Nat.le_refl _) hT (a0 := u7) (a1 := v6) (a2 := 0) hu7 z hz) (fun v9 m8 => ?_)
      refine xj_istore (lv' := [(5, .int v9), (4, .int v6), (0, .ref (xad G q0)), (1, .int x1), (2, .int x2), (3, .int x3)]) F dX9_touched_86 (by decide) rfl ?_
      refine xj_aload_n F 2 dX9_touched_88 rfl ?_
      refine xj_getR F hq0 lgX9_20 dX9_touched_89 (fun u10 hu10 => ?_)
      refine xj_iload F 1 dX9_touched_92 rfl ?_
      refine xj_iconst F 2 dX9_touched_94 (by decide) ?_
      refine xj_callSI (As := [.ref (xad G u10), .int v6, .int 2]) (d' := 0) F lmX9_104 rfl rfl (Nat.le_of_ble_eq_true rfl) (xfit (Nat.le_trans (Nat.le_of_ble_eq_true rfl) hdep)) dX9_touched_95 (fun hT z hz => wX9_ofMember (xnd F) (Nat.le_refl _) hT (a0 := u10) (a1 := v6) (a2 := 2) hu10 z hz) (fun v12 m11 => ?_)
      refine xj_istore (lv' := [(6, .int v12), (5, .int v9), (4, .int v6), (0, .ref (xad G q0)), (1, .int x1), (2, .int x2), (3, .int x3)]) F dX9_touched_98 (by decide) rfl ?_
      refine xj_aload_n F 3 dX9_touched_100 rfl ?_
      refine xj_getR F hq0 lgX9_26 dX9_touched_101 (fun u13 hu13 => ?_)
      refine xj_iload F 2 dX9_touched_104 rfl ?_
      refine xj_zald F hu13 dX9_touched_106 (fun v14 => ?_)
      refine xj_if_ne (tgt := 148) F dX9_touched_107 (by decide) ?_ ?_
      · refine xj_sub (lv' := [(0, .ref (xad G q0)), (1, .int x1), (2, .int x2), (3, .int x3)]) [3, 4, 5, 6] rfl ?_
        exact jX9_touched_148 F hdep hr52 q0 x1 x2 x3 m11 hq0
      · refine xj_iload F 1 dX9_touched_110 rfl ?_
        refine xj_if_eq (tgt := 148) F dX9_touched_112 (by decide) ?_ ?_
        · refine xj_sub (lv' := [(0, .ref (xad G q0)), (1, .int x1), (2, .int x2), (3, .int x3)]) [3, 4, 5, 6] rfl ?_
          exact jX9_touched_148 F hdep hr52 q0 x1 x2 x3 m11 hq0
        · refine xj_iload F 1 dX9_touched_115 rfl ?_
          refine xj_iconst F 4 dX9_touched_117 (by decide) ?_
          refine xj_icmp_ne (tgt := 124) F dX9_touched_118 (by decide) ?_ ?_
          · refine xj_iload_n F 5 dX9_touched_124 rfl ?_
            refine xj_iload F 1 dX9_touched_125 rfl ?_
            refine xj_iconst F 1 dX9_touched_127 (by decide) ?_
            refine xj_icmp_ne (tgt := 140) F dX9_touched_128 (by decide) ?_ ?_
            · refine xj_aload_n F 3 dX9_touched_140 rfl ?_
              refine xj_iload F 0 dX9_touched_141 rfl ?_
              refine xj_callVI (b := q0) (As := [.int v12]) (d' := 1000) F hq0 lmX9_413 rfl rfl (Nat.le_of_ble_eq_true rfl) (xfit (Nat.le_trans (Nat.le_of_ble_eq_true rfl) hdep)) dX9_touched_143 (fun hT z hz => (gwX9_bySum (xnd F) 1000).2.1 hT hq0 v12 z hz) (fun v16 m15 => ?_)
              refine xj_sub (lv' := [(0, .ref (xad G q0)), (1, .int x1), (3, .int x3)]) [3, 4, 6] rfl ?_
              exact jX9_touched_146 F hdep hr52 q0 x1 x3 x2 v16 m15 hq0
            · refine xj_aload_n F 3 dX9_touched_131 rfl ?_
              refine xj_iload F 0 dX9_touched_132 rfl ?_
              refine xj_callVI (b := q0) (As := [.int v12]) (d' := 1000) F hq0 lmX9_407 rfl rfl (Nat.le_of_ble_eq_true rfl) (xfit (Nat.le_trans (Nat.le_of_ble_eq_true rfl) hdep)) dX9_touched_134 (fun hT z hz => (gwX9_bySum (xnd F) 1000).1 hT hq0 v12 z hz) (fun v18 m17 => ?_)
              refine xj_goto (tgt := 146) F dX9_touched_137 (by decide) ?_
              refine xj_sub (lv' := [(0, .ref (xad G q0)), (1, .int x1), (3, .int x3)]) [3, 4, 6] rfl ?_
              exact jX9_touched_146 F hdep hr52 q0 x1 x3 x2 v18 m17 hq0
          · refine xj_goto (tgt := 148) F dX9_touched_121 (by decide) ?_
            refine xj_sub (lv' := [(0, .ref (xad G q0)), (1, .int x1), (2, .int x2), (3, .int x3)]) [3, 4, 5, 6] rfl ?_
            exact jX9_touched_148 F hdep hr52 q0 x1 x2 x3 m11 hq0
set_option maxRecDepth 20000 in
set_option maxHeartbeats 4000000 in
theorem jX9_touched_49 {G : XG} {l : Launch} {d : Nat} {X : XX} (F : xF (xE G d) G X mX9_touched) (hdep : 1001 ≤ d) : ∀ (q0 : Nat) (x1 : Int32) (s0 : Int32) (m0 : XM), isa G q0 9 → xJ (xE G d) (xQ xrI G X mX9_touched) G l X mX9_touched 49 [(0, .ref (xad G q0)), (1, .int x1)] [.int s0] m0 (fX9_touched_49 (xln G) q0 x1 s0 m0) := by
  intro q0 x1 s0 m0 hq0
  unfold fX9_touched_49
  refine xj_istore_n (lv' := [(2, .int s0), (0, .ref (xad G q0)), (1, .int x1)]) F dX9_touched_49 (by decide) rfl ?_
  refine xj_iconst F 0 dX9_touched_50 (by decide) ?_
  refine xj_istore_n (lv' := [(3, .int 0), (2, .int s0), (0, .ref (xad G q0)), (1, .int x1)]) F dX9_touched_51 (by decide) rfl ?_
  refine xj_sub (lv' := [(0, .ref (xad G q0)), (1, .int x1), (2, .int s0), (3, .int 0)]) [2, 3, 1, 0] rfl ?_
  exact jX9_touched_52 F hdep XF q0 x1 s0 0 m0 hq0
set_option maxRecDepth 20000 in
set_option maxHeartbeats 4000000 in
theorem jX9_touched_2 {G : XG} {l : Launch} {d : Nat} {X : XX} (F : xF (xE G d) G X mX9_touched) (hdep : 1001 ≤ d) : ∀ (n : Nat) (q0 : Nat) (x1 : Int32) (x2 : Int32) (m0 : XM), isa G q0 9 → xJ (xE G d) (xQ xrI G X mX9_touched) G l X mX9_touched 2 [(0, .ref (xad G q0)), (1, .int x1), (2, .int x2)] [] m0 (fX9_touched_2 (xln G) n q0 x1 x2 m0) := by
  intro n
  induction n with
  | zero => intro q0 x1 x2 m0 hq0; exact xj_none
  | succ n hr2 =>
    intro q0 x1 x2 m0 hq0
    unfold fX9_touched_2
    generalize hrg2 : (fun q0 x1 x2 m0 => fX9_touched_2 (xln G) n q0 x1 x2 m0) = r2
    have hr2 : ∀ (q0 : Nat) (x1 : Int32) (x2 : Int32) (m0 : XM), isa G q0 9 → xJ (xE G d) (xQ xrI G X mX9_touched) G l X mX9_touched 2 [(0, .ref (xad G q0)), (1, .int x1), (2, .int x2)] [] m0 (r2 q0 x1 x2 m0) := by
      subst hrg2
      exact hr2
    clear hrg2
    refine xj_eq (xv_eq _ _) ?_
    refine xj_iload_n F 2 dX9_touched_2 rfl ?_
    refine xj_bipush F 84 dX9_touched_3 (by decide) ?_
    refine xj_icmp_ge (tgt := 21) F dX9_touched_5 (by decide) ?_ ?_
    · refine xj_aload_n F 0 dX9_touched_21 rfl ?_
      refine xj_getR F hq0 lgX9_20 dX9_touched_22 (fun u1 hu1 => ?_)
      refine xj_iload_n F 1 dX9_touched_25 rfl ?_
      refine xj_iconst F 1 dX9_touched_26 (by decide) ?_
      refine xj_callSI (As := [.ref (xad G u1), .int x1, .int 1]) (d' := 0) F lmX9_97 rfl rfl (Nat.le_of_ble_eq_true rfl) (xfit (Nat.le_trans (Nat.le_of_ble_eq_true rfl) hdep)) dX9_touched_27 (fun hT z hz => wX9_unitOf (xnd F) (Nat.le_refl _) hT (a0 := u1) (a1 := x1) (a2 := 1) hu1 z hz) (fun v3 m2 => ?_)
      refine xj_iconst F (-1) dX9_touched_30 (by decide) ?_
      refine xj_icmp_ne (tgt := 38) F dX9_touched_31 (by decide) ?_ ?_
      · refine xj_iconst F 1 dX9_touched_38 (by decide) ?_
        refine xj_aload_n F 0 dX9_touched_39 rfl ?_
        refine xj_getR F hq0 lgX9_20 dX9_touched_40 (fun u4 hu4 => ?_)
        refine xj_iload_n F 1 dX9_touched_43 rfl ?_
        refine xj_iconst F 1 dX9_touched_44 (by decide) ?_
        refine xj_callSI (As := [.ref (xad G u4), .int x1, .int 1]) (d' := 0) F lmX9_97 rfl rfl (Nat.le_of_ble_eq_true rfl) (xfit (Nat.le_trans (Nat.le_of_ble_eq_true rfl) hdep)) dX9_touched_45 (fun hT z hz => wX9_unitOf (xnd F) (Nat.le_refl _) hT (a0 := u4) (a1 := x1) (a2 := 1) hu4 z hz) (fun v6 m5 => ?_)
        refine xj_ishl F dX9_touched_48 (fun v7 => ?_)
        refine xj_sub (lv' := [(0, .ref (xad G q0)), (1, .int x1)]) [0, 1] rfl ?_
        exact jX9_touched_49 F hdep q0 x1 v7 m5 hq0
      · refine xj_iconst F 0 dX9_touched_34 (by decide) ?_
        refine xj_goto (tgt := 49) F dX9_touched_35 (by decide) ?_
        refine xj_sub (lv' := [(0, .ref (xad G q0)), (1, .int x1)]) [0, 1] rfl ?_
        exact jX9_touched_49 F hdep q0 x1 0 m2 hq0
    · refine xj_aload_n F 0 dX9_touched_8 rfl ?_
      refine xj_getR F hq0 lgX9_85 dX9_touched_9 (fun u8 hu8 => ?_)
      refine xj_iload_n F 2 dX9_touched_12 rfl ?_
      refine xj_iconst F 0 dX9_touched_13 (by decide) ?_
      refine xj_zast F hu8 dX9_touched_14 (fun m9 => ?_)
      refine xj_iinc F 2 1 (fun v10 => [(2, .int v10), (0, .ref (xad G q0)), (1, .int x1)]) dX9_touched_15 rfl (by decide) (by decide) (fun _ => rfl) (fun v10 => ?_)
      refine xj_goto (tgt := 2) F dX9_touched_18 (by decide) ?_
      refine xj_sub (lv' := [(0, .ref (xad G q0)), (1, .int x1), (2, .int v10)]) [1, 2, 0] rfl ?_
      exact hr2 q0 x1 v10 m9 hq0
set_option maxRecDepth 20000 in
set_option maxHeartbeats 4000000 in
theorem wX9_touched {G : XG} {l : Launch} {d : Nat} (hn : xN G) (hdep : 1001 ≤ d) {m0 : XM} (hT : xT G m0) {a0 : Nat} {a1 : Int32} (ha0 : isa G a0 9) : ∀ z, fX9_touched (xln G) a0 a1 m0 = some z → xMet G l mX9_touched d [.ref (xad G a0), .int a1] m0 (xrI z) := by
  refine xMet_of (by decide +kernel) hn hT (Nat.le_of_ble_eq_true rfl) (fun X F => ?_)
  refine xj_sub (lv' := [(0, .ref (xad G a0)), (1, .int a1)]) [0, 1] rfl ?_
  unfold fX9_touched
  refine xj_iconst F 0 dX9_touched_0 (by decide) ?_
  refine xj_istore_n (lv' := [(2, .int 0), (0, .ref (xad G a0)), (1, .int a1)]) F dX9_touched_1 (by decide) rfl ?_
  refine xj_sub (lv' := [(0, .ref (xad G a0)), (1, .int a1), (2, .int 0)]) [1, 2, 0] rfl ?_
  exact jX9_touched_2 F hdep XF a0 a1 0 m0 ha0
set_option maxRecDepth 20000 in
set_option maxHeartbeats 4000000 in
theorem jX9_reached_48 {G : XG} {l : Launch} {d : Nat} {X : XX} (F : xF (xE G d) G X mX9_reached) (hdep : 1002 ≤ d) {r8 : Nat → Int32 → Int32 → XM → Option (Int32 × XM)} (hr8 : ∀ (q0 : Nat) (x2 : Int32) (x3 : Int32) (m0 : XM), isa G q0 9 → xJ (xE G d) (xQ xrI G X mX9_reached) G l X mX9_reached 8 [(0, .ref (xad G q0)), (2, .int x2), (3, .int x3)] [] m0 (r8 q0 x2 x3 m0)) {r18 : Nat → Int32 → Int32 → Int32 → XM → Option (Int32 × XM)} (hr18 : ∀ (q0 : Nat) (x2 : Int32) (x3 : Int32) (x4 : Int32) (m0 : XM), isa G q0 9 → xJ (xE G d) (xQ xrI G X mX9_reached) G l X mX9_reached 18 [(0, .ref (xad G q0)), (2, .int x2), (3, .int x3), (4, .int x4)] [] m0 (r18 q0 x2 x3 x4 m0)) : ∀ (q0 : Nat) (x2 : Int32) (x3 : Int32) (x4 : Int32) (m0 : XM), isa G q0 9 → xJ (xE G d) (xQ xrI G X mX9_reached) G l X mX9_reached 48 [(0, .ref (xad G q0)), (2, .int x2), (3, .int x3), (4, .int x4)] [] m0 (fX9_reached_48 (xln G) r8 r18 q0 x2 x3 x4 m0) := by
  intro q0 x2 x3 x4 m0 hq0
  unfold fX9_reached_48
  refine xj_iinc F 3 1 (fun v1 => [(4, .int v1), (0, .ref (xad G q0)), (2, .int x2), (3, .int x3)]) dX9_reached_48 rfl (by decide) (by decide) (fun _ => rfl) (fun v1 => ?_)
  refine xj_goto (tgt := 18) F dX9_reached_51 (by decide) ?_
  refine xj_sub (lv' := [(0, .ref (xad G q0)), (2, .int x2), (3, .int x3), (4, .int v1)]) [1, 2, 3, 0] rfl ?_
  exact hr18 q0 x2 x3 v1 m0 hq0
set_option maxRecDepth 20000 in
set_option maxHeartbeats 4000000 in
theorem jX9_reached_18 {G : XG} {l : Launch} {d : Nat} {X : XX} (F : xF (xE G d) G X mX9_reached) (hdep : 1002 ≤ d) {r8 : Nat → Int32 → Int32 → XM → Option (Int32 × XM)} (hr8 : ∀ (q0 : Nat) (x2 : Int32) (x3 : Int32) (m0 : XM), isa G q0 9 → xJ (xE G d) (xQ xrI G X mX9_reached) G l X mX9_reached 8 [(0, .ref (xad G q0)), (2, .int x2), (3, .int x3)] [] m0 (r8 q0 x2 x3 m0)) : ∀ (n : Nat) (q0 : Nat) (x2 : Int32) (x3 : Int32) (x4 : Int32) (m0 : XM), isa G q0 9 → xJ (xE G d) (xQ xrI G X mX9_reached) G l X mX9_reached 18 [(0, .ref (xad G q0)), (2, .int x2), (3, .int x3), (4, .int x4)] [] m0 (fX9_reached_18 (xln G) r8 n q0 x2 x3 x4 m0) := by
  intro n
  induction n with
  | zero => intro q0 x2 x3 x4 m0 hq0; exact xj_none
  | succ n hr18 =>
    intro q0 x2 x3 x4 m0 hq0
    unfold fX9_reached_18
    generalize hrg18 : (fun q0 x2 x3 x4 m0 => fX9_reached_18 (xln G) r8 n q0 x2 x3 x4 m0) = r18
    have hr18 : ∀ (q0 : Nat) (x2 : Int32) (x3 : Int32) (x4 : Int32) (m0 : XM), isa G q0 9 → xJ (xE G d) (xQ xrI G X mX9_reached) G l X mX9_reached 18 [(0, .ref (xad G q0)), (2, .int x2), (3, .int x3), (4, .int x4)] [] m0 (r18 q0 x2 x3 x4 m0) := by
      subst hrg18
      exact hr18
    clear hrg18
    refine xj_eq (xv_eq _ _) ?_
    refine xj_iload F 3 dX9_reached_18 rfl ?_
    refine xj_aload_n F 0 dX9_reached_20 rfl ?_
    refine xj_getR F hq0 lgX9_20 dX9_reached_21 (fun u1 hu1 => ?_)
    refine xj_iconst F 0 dX9_reached_24 (by decide) ?_
    refine xj_iald F hu1 dX9_reached_25 (fun v2 => ?_)
    refine xj_icmp_ge (tgt := 54) F dX9_reached_26 (by decide) ?_ ?_
    · refine xj_goto (tgt := 8) F dX9_reached_54 (by decide) ?_
      refine xj_sub (lv' := [(0, .ref (xad G q0)), (2, .int x2), (3, .int x3)]) [0, 1, 2] rfl ?_
      exact hr8 q0 x2 x3 m0 hq0
    · refine xj_iload_n F 2 dX9_reached_29 rfl ?_
      refine xj_iload F 3 dX9_reached_30 rfl ?_
      refine xj_ishr F dX9_reached_32 (fun v3 => ?_)
      refine xj_iconst F 1 dX9_reached_33 (by decide) ?_
      refine xj_iand F dX9_reached_34 (fun v4 => ?_)
      refine xj_iconst F 1 dX9_reached_35 (by decide) ?_
      refine xj_icmp_ne (tgt := 48) F dX9_reached_36 (by decide) ?_ ?_
      · exact jX9_reached_48 F hdep hr8 hr18 q0 x2 x3 x4 m0 hq0
      · refine xj_iload_n F 1 dX9_reached_39 rfl ?_
        refine xj_aload_n F 0 dX9_reached_40 rfl ?_
        refine xj_iload F 3 dX9_reached_41 rfl ?_
        refine xj_callVI (b := q0) (As := [.int x4]) (d' := 1001) F hq0 lmX9_416 rfl rfl (Nat.le_of_ble_eq_true rfl) (xfit (Nat.le_trans (Nat.le_of_ble_eq_true rfl) hdep)) dX9_reached_43 (fun hT z hz => wX9_touched (xnd F) (Nat.le_refl _) hT (a0 := q0) (a1 := x4) hq0 z hz) (fun v6 m5 => ?_)
        refine xj_ior F dX9_reached_46 (fun v7 => ?_)
        refine xj_istore_n (lv' := [(2, .int v7), (0, .ref (xad G q0)), (3, .int x3), (4, .int x4)]) F dX9_reached_47 (by decide) rfl ?_
        refine xj_sub (lv' := [(0, .ref (xad G q0)), (2, .int v7), (3, .int x3), (4, .int x4)]) [1, 0, 2, 3] rfl ?_
        exact jX9_reached_48 F hdep hr8 hr18 q0 v7 x3 x4 m5 hq0
set_option maxRecDepth 20000 in
set_option maxHeartbeats 4000000 in
theorem jX9_reached_8 {G : XG} {l : Launch} {d : Nat} {X : XX} (F : xF (xE G d) G X mX9_reached) (hdep : 1002 ≤ d) : ∀ (n : Nat) (q0 : Nat) (x2 : Int32) (x3 : Int32) (m0 : XM), isa G q0 9 → xJ (xE G d) (xQ xrI G X mX9_reached) G l X mX9_reached 8 [(0, .ref (xad G q0)), (2, .int x2), (3, .int x3)] [] m0 (fX9_reached_8 (xln G) n q0 x2 x3 m0) := by
  intro n
  induction n with
  | zero => intro q0 x2 x3 m0 hq0; exact xj_none
  | succ n hr8 =>
    intro q0 x2 x3 m0 hq0
    unfold fX9_reached_8
    generalize hrg8 : (fun q0 x2 x3 m0 => fX9_reached_8 (xln G) n q0 x2 x3 m0) = r8
    have hr8 : ∀ (q0 : Nat) (x2 : Int32) (x3 : Int32) (m0 : XM), isa G q0 9 → xJ (xE G d) (xQ xrI G X mX9_reached) G l X mX9_reached 8 [(0, .ref (xad G q0)), (2, .int x2), (3, .int x3)] [] m0 (r8 q0 x2 x3 m0) := by
      subst hrg8
      exact hr8
    clear hrg8
    refine xj_eq (xv_eq _ _) ?_
    refine xj_iload_n F 1 dX9_reached_8 rfl ?_
    refine xj_iload_n F 2 dX9_reached_9 rfl ?_
    refine xj_icmp_eq (tgt := 57) F dX9_reached_10 (by decide) ?_ ?_
    · refine xj_iload_n F 1 dX9_reached_57 rfl ?_
      exact xj_ret F rfl dX9_reached_58
    · refine xj_iload_n F 1 dX9_reached_13 rfl ?_
      refine xj_istore_n (lv' := [(3, .int x2), (0, .ref (xad G q0)), (2, .int x2)]) F dX9_reached_14 (by decide) rfl ?_
      refine xj_iconst F 0 dX9_reached_15 (by decide) ?_
      refine xj_istore (lv' := [(4, .int 0), (3, .int x2), (0, .ref (xad G q0)), (2, .int x2)]) F dX9_reached_16 (by decide) rfl ?_
      refine xj_sub (lv' := [(0, .ref (xad G q0)), (2, .int x2), (3, .int x2), (4, .int 0)]) [2, 3, 1, 0] rfl ?_
      exact jX9_reached_18 F hdep hr8 XF q0 x2 x2 0 m0 hq0
set_option maxRecDepth 20000 in
set_option maxHeartbeats 4000000 in
theorem wX9_reached {G : XG} {l : Launch} {d : Nat} (hn : xN G) (hdep : 1002 ≤ d) {m0 : XM} (hT : xT G m0) {a0 : Nat} {a1 : Int32} (ha0 : isa G a0 9) : ∀ z, fX9_reached (xln G) a0 a1 m0 = some z → xMet G l mX9_reached d [.ref (xad G a0), .int a1] m0 (xrI z) := by
  refine xMet_of (by decide +kernel) hn hT (Nat.le_of_ble_eq_true rfl) (fun X F => ?_)
  refine xj_sub (lv' := [(0, .ref (xad G a0)), (1, .int a1)]) [0, 1] rfl ?_
  unfold fX9_reached
  refine xj_aload_n F 0 dX9_reached_0 rfl ?_
  refine xj_iload_n F 1 dX9_reached_1 rfl ?_
  refine xj_callVI (b := a0) (As := [.int a1]) (d' := 1001) F ha0 lmX9_416 rfl rfl (Nat.le_of_ble_eq_true rfl) (xfit (Nat.le_trans (Nat.le_of_ble_eq_true rfl) hdep)) dX9_reached_2 (fun hT z hz => wX9_touched (xnd F) (Nat.le_refl _) hT (a0 := a0) (a1 := a1) ha0 z hz) (fun v2 m1 => ?_)
  refine xj_istore_n (lv' := [(2, .int v2), (0, .ref (xad G a0)), (1, .int a1)]) F dX9_reached_5 (by decide) rfl ?_
  refine xj_iconst F 0 dX9_reached_6 (by decide) ?_
  refine xj_istore_n (lv' := [(3, .int 0), (2, .int v2), (0, .ref (xad G a0)), (1, .int a1)]) F dX9_reached_7 (by decide) rfl ?_
  refine xj_sub (lv' := [(0, .ref (xad G a0)), (2, .int v2), (3, .int 0)]) [2, 1, 0] rfl ?_
  exact jX9_reached_8 F hdep XF a0 v2 0 m1 ha0
set_option maxRecDepth 20000 in
set_option maxHeartbeats 4000000 in
theorem jX9_touches_19 {G : XG} {l : Launch} {d : Nat} {X : XX} (F : xF (xE G d) G X mX9_touches) (hdep : 1002 ≤ d) : ∀ (q0 : Nat) (x1 : Int32) (p0 : Nat) (s1 : Int32) (m0 : XM), isa G q0 9 → isa G p0 9 → xJ (xE G d) (xQ xrI G X mX9_touches) G l X mX9_touches 19 [(0, .ref (xad G q0)), (1, .int x1)] [.int s1, .ref (xad G p0)] m0 (fX9_touches_19 (xln G) q0 x1 p0 s1 m0) := by
  intro q0 x1 p0 s1 m0 hq0 hp0
  unfold fX9_touches_19
  refine xj_iconst F 1 dX9_touches_19 (by decide) ?_
  refine xj_iconst F 0 dX9_touches_20 (by decide) ?_
  refine xj_callVI (b := p0) (As := [.int s1, .int 1, .int 0]) (d' := 0) F hp0 lmX9_257 rfl rfl (Nat.le_of_ble_eq_true rfl) (xfit (Nat.le_trans (Nat.le_of_ble_eq_true rfl) hdep)) dX9_touches_21 (fun hT z hz => wX9_bad (xnd F) (Nat.le_refl _) hT (a0 := p0) (a1 := s1) (a2 := 1) (a3 := 0) hp0 z hz) (fun v2 m1 => ?_)
  refine xj_if_eq (tgt := 31) F dX9_touches_24 (by decide) ?_ ?_
  · refine xj_aload_n F 0 dX9_touches_31 rfl ?_
    refine xj_iload_n F 1 dX9_touches_32 rfl ?_
    refine xj_callVI (b := q0) (As := [.int x1]) (d' := 1001) F hq0 lmX9_416 rfl rfl (Nat.le_of_ble_eq_true rfl) (xfit (Nat.le_trans (Nat.le_of_ble_eq_true rfl) hdep)) dX9_touches_33 (fun hT z hz => wX9_touched (xnd F) (Nat.le_refl _) hT (a0 := q0) (a1 := x1) hq0 z hz) (fun v4 m3 => ?_)
    exact xj_ret F rfl dX9_touches_36
  · refine xj_iconst F 0 dX9_touches_27 (by decide) ?_
    refine xj_goto (tgt := 36) F dX9_touches_28 (by decide) ?_
    exact xj_ret F rfl dX9_touches_36
set_option maxRecDepth 20000 in
set_option maxHeartbeats 4000000 in
theorem wX9_touches {G : XG} {l : Launch} {d : Nat} (hn : xN G) (hdep : 1002 ≤ d) {m0 : XM} (hT : xT G m0) {a0 : Nat} {a1 : Int32} (ha0 : isa G a0 9) : ∀ z, fX9_touches (xln G) a0 a1 m0 = some z → xMet G l mX9_touches d [.ref (xad G a0), .int a1] m0 (xrI z) := by
  refine xMet_of (by decide +kernel) hn hT (Nat.le_of_ble_eq_true rfl) (fun X F => ?_)
  refine xj_sub (lv' := [(0, .ref (xad G a0)), (1, .int a1)]) [0, 1] rfl ?_
  unfold fX9_touches
  refine xj_aload_n F 0 dX9_touches_0 rfl ?_
  refine xj_iconst F 0 dX9_touches_1 (by decide) ?_
  refine xj_put F ha0 lpX9_91 dX9_touches_2 (fun m1 => ?_)
  refine xj_aload_n F 0 dX9_touches_5 rfl ?_
  refine xj_aload_n F 0 dX9_touches_6 rfl ?_
  refine xj_iload_n F 1 dX9_touches_7 rfl ?_
  refine xj_callVI (b := a0) (As := [.int a1]) (d' := 1) F ha0 lmX9_283 rfl rfl (Nat.le_of_ble_eq_true rfl) (xfit (Nat.le_trans (Nat.le_of_ble_eq_true rfl) hdep)) dX9_touches_8 (fun hT z hz => wX9_isUnit (xnd F) (Nat.le_refl _) hT (a0 := a0) (a1 := a1) ha0 z hz) (fun v3 m2 => ?_)
  refine xj_if_ne (tgt := 18) F dX9_touches_11 (by decide) ?_ ?_
  · refine xj_iconst F 0 dX9_touches_18 (by decide) ?_
    exact jX9_touches_19 F hdep a0 a1 a0 0 m2 ha0 ha0
  · refine xj_iconst F 1 dX9_touches_14 (by decide) ?_
    refine xj_goto (tgt := 19) F dX9_touches_15 (by decide) ?_
    exact jX9_touches_19 F hdep a0 a1 a0 1 m2 ha0 ha0
set_option maxRecDepth 20000 in
set_option maxHeartbeats 4000000 in
theorem jX9_reach_19 {G : XG} {l : Launch} {d : Nat} {X : XX} (F : xF (xE G d) G X mX9_reach) (hdep : 1003 ≤ d) : ∀ (q0 : Nat) (x1 : Int32) (p0 : Nat) (s1 : Int32) (m0 : XM), isa G q0 9 → isa G p0 9 → xJ (xE G d) (xQ xrI G X mX9_reach) G l X mX9_reach 19 [(0, .ref (xad G q0)), (1, .int x1)] [.int s1, .ref (xad G p0)] m0 (fX9_reach_19 (xln G) q0 x1 p0 s1 m0) := by
  intro q0 x1 p0 s1 m0 hq0 hp0
  unfold fX9_reach_19
  refine xj_iconst F 1 dX9_reach_19 (by decide) ?_
  refine xj_iconst F 0 dX9_reach_20 (by decide) ?_
  refine xj_callVI (b := p0) (As := [.int s1, .int 1, .int 0]) (d' := 0) F hp0 lmX9_257 rfl rfl (Nat.le_of_ble_eq_true rfl) (xfit (Nat.le_trans (Nat.le_of_ble_eq_true rfl) hdep)) dX9_reach_21 (fun hT z hz => wX9_bad (xnd F) (Nat.le_refl _) hT (a0 := p0) (a1 := s1) (a2 := 1) (a3 := 0) hp0 z hz) (fun v2 m1 => ?_)
  refine xj_if_eq (tgt := 31) F dX9_reach_24 (by decide) ?_ ?_
  · refine xj_aload_n F 0 dX9_reach_31 rfl ?_
    refine xj_iload_n F 1 dX9_reach_32 rfl ?_
    refine xj_callVI (b := q0) (As := [.int x1]) (d' := 1002) F hq0 lmX9_419 rfl rfl (Nat.le_of_ble_eq_true rfl) (xfit (Nat.le_trans (Nat.le_of_ble_eq_true rfl) hdep)) dX9_reach_33 (fun hT z hz => wX9_reached (xnd F) (Nat.le_refl _) hT (a0 := q0) (a1 := x1) hq0 z hz) (fun v4 m3 => ?_)
    exact xj_ret F rfl dX9_reach_36
  · refine xj_iconst F 0 dX9_reach_27 (by decide) ?_
    refine xj_goto (tgt := 36) F dX9_reach_28 (by decide) ?_
    exact xj_ret F rfl dX9_reach_36
set_option maxRecDepth 20000 in
set_option maxHeartbeats 4000000 in
theorem wX9_reach {G : XG} {l : Launch} {d : Nat} (hn : xN G) (hdep : 1003 ≤ d) {m0 : XM} (hT : xT G m0) {a0 : Nat} {a1 : Int32} (ha0 : isa G a0 9) : ∀ z, fX9_reach (xln G) a0 a1 m0 = some z → xMet G l mX9_reach d [.ref (xad G a0), .int a1] m0 (xrI z) := by
  refine xMet_of (by decide +kernel) hn hT (Nat.le_of_ble_eq_true rfl) (fun X F => ?_)
  refine xj_sub (lv' := [(0, .ref (xad G a0)), (1, .int a1)]) [0, 1] rfl ?_
  unfold fX9_reach
  refine xj_aload_n F 0 dX9_reach_0 rfl ?_
  refine xj_iconst F 0 dX9_reach_1 (by decide) ?_
  refine xj_put F ha0 lpX9_91 dX9_reach_2 (fun m1 => ?_)
  refine xj_aload_n F 0 dX9_reach_5 rfl ?_
  refine xj_aload_n F 0 dX9_reach_6 rfl ?_
  refine xj_iload_n F 1 dX9_reach_7 rfl ?_
  refine xj_callVI (b := a0) (As := [.int a1]) (d' := 1) F ha0 lmX9_283 rfl rfl (Nat.le_of_ble_eq_true rfl) (xfit (Nat.le_trans (Nat.le_of_ble_eq_true rfl) hdep)) dX9_reach_8 (fun hT z hz => wX9_isUnit (xnd F) (Nat.le_refl _) hT (a0 := a0) (a1 := a1) ha0 z hz) (fun v3 m2 => ?_)
  refine xj_if_ne (tgt := 18) F dX9_reach_11 (by decide) ?_ ?_
  · refine xj_iconst F 0 dX9_reach_18 (by decide) ?_
    exact jX9_reach_19 F hdep a0 a1 a0 0 m2 ha0 ha0
  · refine xj_iconst F 1 dX9_reach_14 (by decide) ?_
    refine xj_goto (tgt := 19) F dX9_reach_15 (by decide) ?_
    exact jX9_reach_19 F hdep a0 a1 a0 1 m2 ha0 ha0
set_option maxRecDepth 20000 in
set_option maxHeartbeats 4000000 in
theorem jX9_ring_82 {G : XG} {l : Launch} {d : Nat} {X : XX} (F : xF (xE G d) G X mX9_ring) (hdep : 1003 ≤ d) {r40 : Nat → Int32 → Int32 → Int32 → Int32 → XM → Option (Int32 × XM)} (hr40 : ∀ (q0 : Nat) (x1 : Int32) (x2 : Int32) (x3 : Int32) (x4 : Int32) (m0 : XM), isa G q0 9 → xJ (xE G d) (xQ xrI G X mX9_ring) G l X mX9_ring 40 [(0, .ref (xad G q0)), (1, .int x1), (2, .int x2), (3, .int x3), (4, .int x4)] [] m0 (r40 q0 x1 x2 x3 x4 m0)) : ∀ (q0 : Nat) (x1 : Int32) (x2 : Int32) (x3 : Int32) (x4 : Int32) (m0 : XM), isa G q0 9 → xJ (xE G d) (xQ xrI G X mX9_ring) G l X mX9_ring 82 [(0, .ref (xad G q0)), (1, .int x1), (2, .int x2), (3, .int x3), (4, .int x4)] [] m0 (fX9_ring_82 (xln G) r40 q0 x1 x2 x3 x4 m0) := by
  intro q0 x1 x2 x3 x4 m0 hq0
  unfold fX9_ring_82
  refine xj_iinc F 4 1 (fun v1 => [(4, .int v1), (0, .ref (xad G q0)), (1, .int x1), (2, .int x2), (3, .int x3)]) dX9_ring_82 rfl (by decide) (by decide) (fun _ => rfl) (fun v1 => ?_)
  refine xj_goto (tgt := 40) F dX9_ring_85 (by decide) ?_
  refine xj_sub (lv' := [(0, .ref (xad G q0)), (1, .int x1), (2, .int x2), (3, .int x3), (4, .int v1)]) [1, 2, 3, 4, 0] rfl ?_
  exact hr40 q0 x1 x2 x3 v1 m0 hq0
set_option maxRecDepth 20000 in
set_option maxHeartbeats 4000000 in
theorem jX9_ring_40 {G : XG} {l : Launch} {d : Nat} {X : XX} (F : xF (xE G d) G X mX9_ring) (hdep : 1003 ≤ d) : ∀ (n : Nat) (q0 : Nat) (x1 : Int32) (x2 : Int32) (x3 : Int32) (x4 : Int32) (m0 : XM), isa G q0 9 → xJ (xE G d) (xQ xrI G X mX9_ring) G l X mX9_ring 40 [(0, .ref (xad G q0)), (1, .int x1), (2, .int x2), (3, .int x3), (4, .int x4)] [] m0 (fX9_ring_40 (xln G) n q0 x1 x2 x3 x4 m0) := by
  intro n
  induction n with
  | zero => intro q0 x1 x2 x3 x4 m0 hq0; exact xj_none
  | succ n hr40 =>
    intro q0 x1 x2 x3 x4 m0 hq0
    unfold fX9_ring_40
    generalize hrg40 : (fun q0 x1 x2 x3 x4 m0 => fX9_ring_40 (xln G) n q0 x1 x2 x3 x4 m0) = r40
    have hr40 : ∀ (q0 : Nat) (x1 : Int32) (x2 : Int32) (x3 : Int32) (x4 : Int32) (m0 : XM), isa G q0 9 → xJ (xE G d) (xQ xrI G X mX9_ring) G l X mX9_ring 40 [(0, .ref (xad G q0)), (1, .int x1), (2, .int x2), (3, .int x3), (4, .int x4)] [] m0 (r40 q0 x1 x2 x3 x4 m0) := by
      subst hrg40
      exact hr40
    clear hrg40
    refine xj_eq (xv_eq _ _) ?_
    refine xj_iload F 4 dX9_ring_40 rfl ?_
    refine xj_aload_n F 0 dX9_ring_42 rfl ?_
    refine xj_getR F hq0 lgX9_20 dX9_ring_43 (fun u1 hu1 => ?_)
    refine xj_iconst F 0 dX9_ring_46 (by decide) ?_
    refine xj_iald F hu1 dX9_ring_47 (fun v2 => ?_)
    refine xj_icmp_ge (tgt := 88) F dX9_ring_48 (by decide) ?_ ?_
    · refine xj_iload_n F 3 dX9_ring_88 rfl ?_
      exact xj_ret F rfl dX9_ring_89
    · refine xj_iload_n F 2 dX9_ring_51 rfl ?_
      refine xj_iload F 4 dX9_ring_52 rfl ?_
      refine xj_ishr F dX9_ring_54 (fun v3 => ?_)
      refine xj_iconst F 1 dX9_ring_55 (by decide) ?_
      refine xj_iand F dX9_ring_56 (fun v4 => ?_)
      refine xj_iconst F 1 dX9_ring_57 (by decide) ?_
      refine xj_icmp_ne (tgt := 82) F dX9_ring_58 (by decide) ?_ ?_
      · exact jX9_ring_82 F hdep hr40 q0 x1 x2 x3 x4 m0 hq0
      · refine xj_aload_n F 0 dX9_ring_61 rfl ?_
        refine xj_iload F 4 dX9_ring_62 rfl ?_
        refine xj_callVI (b := q0) (As := [.int x4]) (d' := 1002) F hq0 lmX9_419 rfl rfl (Nat.le_of_ble_eq_true rfl) (xfit (Nat.le_trans (Nat.le_of_ble_eq_true rfl) hdep)) dX9_ring_64 (fun hT z hz => wX9_reached (xnd F) (Nat.le_refl _) hT (a0 := q0) (a1 := x4) hq0 z hz) (fun v6 m5 => ?_)
        refine xj_iload_n F 1 dX9_ring_67 rfl ?_
        refine xj_ishr F dX9_ring_68 (fun v7 => ?_)
        refine xj_iconst F 1 dX9_ring_69 (by decide) ?_
        refine xj_iand F dX9_ring_70 (fun v8 => ?_)
        refine xj_iconst F 1 dX9_ring_71 (by decide) ?_
        refine xj_icmp_ne (tgt := 82) F dX9_ring_72 (by decide) ?_ ?_
        · exact jX9_ring_82 F hdep hr40 q0 x1 x2 x3 x4 m5 hq0
        · refine xj_iload_n F 3 dX9_ring_75 rfl ?_
          refine xj_iconst F 1 dX9_ring_76 (by decide) ?_
          refine xj_iload F 4 dX9_ring_77 rfl ?_
          refine xj_ishl F dX9_ring_79 (fun v9 => ?_)
          refine xj_ior F dX9_ring_80 (fun v10 => ?_)
          refine xj_istore_n (lv' := [(3, .int v10), (0, .ref (xad G q0)), (1, .int x1), (2, .int x2), (4, .int x4)]) F dX9_ring_81 (by decide) rfl ?_
          refine xj_sub (lv' := [(0, .ref (xad G q0)), (1, .int x1), (2, .int x2), (3, .int v10), (4, .int x4)]) [1, 2, 3, 0, 4] rfl ?_
          exact jX9_ring_82 F hdep hr40 q0 x1 x2 v10 x4 m5 hq0
set_option maxRecDepth 20000 in
set_option maxHeartbeats 4000000 in
theorem jX9_ring_19 {G : XG} {l : Launch} {d : Nat} {X : XX} (F : xF (xE G d) G X mX9_ring) (hdep : 1003 ≤ d) : ∀ (q0 : Nat) (x1 : Int32) (p0 : Nat) (s1 : Int32) (m0 : XM), isa G q0 9 → isa G p0 9 → xJ (xE G d) (xQ xrI G X mX9_ring) G l X mX9_ring 19 [(0, .ref (xad G q0)), (1, .int x1)] [.int s1, .ref (xad G p0)] m0 (fX9_ring_19 (xln G) q0 x1 p0 s1 m0) := by
  intro q0 x1 p0 s1 m0 hq0 hp0
  unfold fX9_ring_19
  refine xj_iconst F 1 dX9_ring_19 (by decide) ?_
  refine xj_iconst F 0 dX9_ring_20 (by decide) ?_
  refine xj_callVI (b := p0) (As := [.int s1, .int 1, .int 0]) (d' := 0) F hp0 lmX9_257 rfl rfl (Nat.le_of_ble_eq_true rfl) (xfit (Nat.le_trans (Nat.le_of_ble_eq_true rfl) hdep)) dX9_ring_21 (fun hT z hz => wX9_bad (xnd F) (Nat.le_refl _) hT (a0 := p0) (a1 := s1) (a2 := 1) (a3 := 0) hp0 z hz) (fun v2 m1 => ?_)
  refine xj_if_eq (tgt := 29) F dX9_ring_24 (by decide) ?_ ?_
  · refine xj_aload_n F 0 dX9_ring_29 rfl ?_
    refine xj_iload_n F 1 dX9_ring_30 rfl ?_
    refine xj_callVI (b := q0) (As := [.int x1]) (d' := 1002) F hq0 lmX9_419 rfl rfl (Nat.le_of_ble_eq_true rfl) (xfit (Nat.le_trans (Nat.le_of_ble_eq_true rfl) hdep)) dX9_ring_31 (fun hT z hz => wX9_reached (xnd F) (Nat.le_refl _) hT (a0 := q0) (a1 := x1) hq0 z hz) (fun v4 m3 => ?_)
    refine xj_istore_n (lv' := [(2, .int v4), (0, .ref (xad G q0)), (1, .int x1)]) F dX9_ring_34 (by decide) rfl ?_
    refine xj_iconst F 0 dX9_ring_35 (by decide) ?_
    refine xj_istore_n (lv' := [(3, .int 0), (2, .int v4), (0, .ref (xad G q0)), (1, .int x1)]) F dX9_ring_36 (by decide) rfl ?_
    refine xj_iconst F 0 dX9_ring_37 (by decide) ?_
    refine xj_istore (lv' := [(4, .int 0), (3, .int 0), (2, .int v4), (0, .ref (xad G q0)), (1, .int x1)]) F dX9_ring_38 (by decide) rfl ?_
    refine xj_sub (lv' := [(0, .ref (xad G q0)), (1, .int x1), (2, .int v4), (3, .int 0), (4, .int 0)]) [3, 4, 2, 1, 0] rfl ?_
    exact jX9_ring_40 F hdep XF q0 x1 v4 0 0 m3 hq0
  · refine xj_iconst F 0 dX9_ring_27 (by decide) ?_
    exact xj_ret F rfl dX9_ring_28
set_option maxRecDepth 20000 in
set_option maxHeartbeats 4000000 in
theorem wX9_ring {G : XG} {l : Launch} {d : Nat} (hn : xN G) (hdep : 1003 ≤ d) {m0 : XM} (hT : xT G m0) {a0 : Nat} {a1 : Int32} (ha0 : isa G a0 9) : ∀ z, fX9_ring (xln G) a0 a1 m0 = some z → xMet G l mX9_ring d [.ref (xad G a0), .int a1] m0 (xrI z) := by
  refine xMet_of (by decide +kernel) hn hT (Nat.le_of_ble_eq_true rfl) (fun X F => ?_)
  refine xj_sub (lv' := [(0, .ref (xad G a0)), (1, .int a1)]) [0, 1] rfl ?_
  unfold fX9_ring
  refine xj_aload_n F 0 dX9_ring_0 rfl ?_
  refine xj_iconst F 0 dX9_ring_1 (by decide) ?_
  refine xj_put F ha0 lpX9_91 dX9_ring_2 (fun m1 => ?_)
  refine xj_aload_n F 0 dX9_ring_5 rfl ?_
  refine xj_aload_n F 0 dX9_ring_6 rfl ?_
  refine xj_iload_n F 1 dX9_ring_7 rfl ?_
  refine xj_callVI (b := a0) (As := [.int a1]) (d' := 1) F ha0 lmX9_283 rfl rfl (Nat.le_of_ble_eq_true rfl) (xfit (Nat.le_trans (Nat.le_of_ble_eq_true rfl) hdep)) dX9_ring_8 (fun hT z hz => wX9_isUnit (xnd F) (Nat.le_refl _) hT (a0 := a0) (a1 := a1) ha0 z hz) (fun v3 m2 => ?_)
  refine xj_if_ne (tgt := 18) F dX9_ring_11 (by decide) ?_ ?_
  · refine xj_iconst F 0 dX9_ring_18 (by decide) ?_
    exact jX9_ring_19 F hdep a0 a1 a0 0 m2 ha0 ha0
  · refine xj_iconst F 1 dX9_ring_14 (by decide) ?_
    refine xj_goto (tgt := 19) F dX9_ring_15 (by decide) ?_
    exact jX9_ring_19 F hdep a0 a1 a0 1 m2 ha0 ha0
set_option maxRecDepth 20000 in
set_option maxHeartbeats 4000000 in
theorem jX9_brokenIn_34 {G : XG} {l : Launch} {d : Nat} {X : XX} (F : xF (xE G d) G X mX9_brokenIn) (hdep : 1 ≤ d) : ∀ (n : Nat) (q0 : Nat) (x1 : Int32) (x2 : Int32) (x3 : Int32) (x4 : Int32) (m0 : XM), isa G q0 9 → xJ (xE G d) (xQ xrI G X mX9_brokenIn) G l X mX9_brokenIn 34 [(0, .ref (xad G q0)), (1, .int x1), (2, .int x2), (3, .int x3), (4, .int x4)] [] m0 (fX9_brokenIn_34 (xln G) n q0 x1 x2 x3 x4 m0) := by
  intro n
  induction n with
  | zero => intro q0 x1 x2 x3 x4 m0 hq0; exact xj_none
  | succ n hr34 =>
    intro q0 x1 x2 x3 x4 m0 hq0
    unfold fX9_brokenIn_34
    generalize hrg34 : (fun q0 x1 x2 x3 x4 m0 => fX9_brokenIn_34 (xln G) n q0 x1 x2 x3 x4 m0) = r34
    have hr34 : ∀ (q0 : Nat) (x1 : Int32) (x2 : Int32) (x3 : Int32) (x4 : Int32) (m0 : XM), isa G q0 9 → xJ (xE G d) (xQ xrI G X mX9_brokenIn) G l X mX9_brokenIn 34 [(0, .ref (xad G q0)), (1, .int x1), (2, .int x2), (3, .int x3), (4, .int x4)] [] m0 (r34 q0 x1 x2 x3 x4 m0) := by
      subst hrg34
      exact hr34
    clear hrg34
    refine xj_eq (xv_eq _ _) ?_
    refine xj_iload F 4 dX9_brokenIn_34 rfl ?_
    refine xj_if_le (tgt := 91) F dX9_brokenIn_36 (by decide) ?_ ?_
    · refine xj_iload_n F 2 dX9_brokenIn_91 rfl ?_
      exact xj_ret F rfl dX9_brokenIn_92
    · refine xj_aload_n F 0 dX9_brokenIn_39 rfl ?_
      refine xj_getR F hq0 lgX9_20 dX9_brokenIn_40 (fun u1 hu1 => ?_)
      refine xj_iconst F 0 dX9_brokenIn_43 (by decide) ?_
      refine xj_iald F hu1 dX9_brokenIn_44 (fun v2 => ?_)
      refine xj_if_le (tgt := 91) F dX9_brokenIn_45 (by decide) ?_ ?_
      · refine xj_iload_n F 2 dX9_brokenIn_91 rfl ?_
        exact xj_ret F rfl dX9_brokenIn_92
      · refine xj_iload_n F 1 dX9_brokenIn_48 rfl ?_
        refine xj_iload F 4 dX9_brokenIn_49 rfl ?_
        refine xj_idiv F dX9_brokenIn_51 (fun v3 => ?_)
        refine xj_bipush F 10 dX9_brokenIn_52 (by decide) ?_
        refine xj_irem F dX9_brokenIn_54 (fun v4 => ?_)
        refine xj_istore (lv' := [(5, .int v4), (0, .ref (xad G q0)), (1, .int x1), (2, .int x2), (3, .int x3), (4, .int x4)]) F dX9_brokenIn_55 (by decide) rfl ?_
        refine xj_iload_n F 4 dX9_brokenIn_57 rfl ?_
        refine xj_iconst F 1 dX9_brokenIn_58 (by decide) ?_
        refine xj_iload F 0 dX9_brokenIn_59 rfl ?_
        refine xj_ishl F dX9_brokenIn_61 (fun v5 => ?_)
        refine xj_ior F dX9_brokenIn_62 (fun v6 => ?_)
        refine xj_istore_n (lv' := [(3, .int v6), (5, .int v4), (0, .ref (xad G q0)), (1, .int x1), (2, .int x2), (4, .int x4)]) F dX9_brokenIn_63 (by decide) rfl ?_
        refine xj_iload_n F 4 dX9_brokenIn_64 rfl ?_
        refine xj_aload_n F 2 dX9_brokenIn_65 rfl ?_
        refine xj_getR F hq0 lgX9_88 dX9_brokenIn_66 (fun u7 hu7 => ?_)
        refine xj_iload F 1 dX9_brokenIn_69 rfl ?_
        refine xj_iald F hu7 dX9_brokenIn_71 (fun v8 => ?_)
        refine xj_iload_n F 0 dX9_brokenIn_72 rfl ?_
        refine xj_iconst F (-1) dX9_brokenIn_73 (by decide) ?_
        refine xj_ixor F dX9_brokenIn_74 (fun v9 => ?_)
        refine xj_iand F dX9_brokenIn_75 (fun v10 => ?_)
        refine xj_callSI (As := [.int v10]) (d' := 0) F lmX9_422 rfl rfl (Nat.le_of_ble_eq_true rfl) (xfit (Nat.le_trans (Nat.le_of_ble_eq_true rfl) hdep)) dX9_brokenIn_76 (fun hT z hz => wX9_bits (xnd F) (Nat.le_refl _) hT (a0 := v10)  z hz) (fun v12 m11 => ?_)
        refine xj_iadd F dX9_brokenIn_79 (fun v13 => ?_)
        refine xj_istore_n (lv' := [(2, .int v13), (3, .int v6), (5, .int v4), (0, .ref (xad G q0)), (1, .int x1), (4, .int x4)]) F dX9_brokenIn_80 (by decide) rfl ?_
        refine xj_iload F 5 dX9_brokenIn_81 rfl ?_
        refine xj_bipush F 10 dX9_brokenIn_83 (by decide) ?_
        refine xj_idiv F dX9_brokenIn_85 (fun v14 => ?_)
        refine xj_istore (lv' := [(4, .int v14), (2, .int v13), (3, .int v6), (5, .int v4), (0, .ref (xad G q0)), (1, .int x1)]) F dX9_brokenIn_86 (by decide) rfl ?_
        refine xj_goto (tgt := 34) F dX9_brokenIn_88 (by decide) ?_
        refine xj_sub (lv' := [(0, .ref (xad G q0)), (1, .int x1), (2, .int v13), (3, .int v6), (4, .int v14)]) [4, 5, 1, 2, 0] rfl ?_
        exact hr34 q0 x1 v13 v6 v14 m11 hq0
set_option maxRecDepth 20000 in
set_option maxHeartbeats 4000000 in
theorem jX9_brokenIn_10 {G : XG} {l : Launch} {d : Nat} {X : XX} (F : xF (xE G d) G X mX9_brokenIn) (hdep : 1 ≤ d) : ∀ (n : Nat) (q0 : Nat) (x1 : Int32) (x2 : Int32) (x3 : Int32) (x4 : Int32) (x5 : Int32) (m0 : XM), isa G q0 9 → xJ (xE G d) (xQ xrI G X mX9_brokenIn) G l X mX9_brokenIn 10 [(0, .ref (xad G q0)), (1, .int x1), (2, .int x2), (3, .int x3), (4, .int x4), (5, .int x5)] [] m0 (fX9_brokenIn_10 (xln G) n q0 x1 x2 x3 x4 x5 m0) := by
  intro n
  induction n with
  | zero => intro q0 x1 x2 x3 x4 x5 m0 hq0; exact xj_none
  | succ n hr10 =>
    intro q0 x1 x2 x3 x4 x5 m0 hq0
    unfold fX9_brokenIn_10
    generalize hrg10 : (fun q0 x1 x2 x3 x4 x5 m0 => fX9_brokenIn_10 (xln G) n q0 x1 x2 x3 x4 x5 m0) = r10
    have hr10 : ∀ (q0 : Nat) (x1 : Int32) (x2 : Int32) (x3 : Int32) (x4 : Int32) (x5 : Int32) (m0 : XM), isa G q0 9 → xJ (xE G d) (xQ xrI G X mX9_brokenIn) G l X mX9_brokenIn 10 [(0, .ref (xad G q0)), (1, .int x1), (2, .int x2), (3, .int x3), (4, .int x4), (5, .int x5)] [] m0 (r10 q0 x1 x2 x3 x4 x5 m0) := by
      subst hrg10
      exact hr10
    clear hrg10
    refine xj_eq (xv_eq _ _) ?_
    refine xj_iload F 5 dX9_brokenIn_10 rfl ?_
    refine xj_aload_n F 0 dX9_brokenIn_12 rfl ?_
    refine xj_getR F hq0 lgX9_20 dX9_brokenIn_13 (fun u1 hu1 => ?_)
    refine xj_iconst F 0 dX9_brokenIn_16 (by decide) ?_
    refine xj_iald F hu1 dX9_brokenIn_17 (fun v2 => ?_)
    refine xj_icmp_ge (tgt := 34) F dX9_brokenIn_18 (by decide) ?_ ?_
    · refine xj_sub (lv' := [(0, .ref (xad G q0)), (1, .int x1), (2, .int x2), (3, .int x3), (4, .int x4)]) [0, 1, 2, 3, 4] rfl ?_
      exact jX9_brokenIn_34 F hdep XF q0 x1 x2 x3 x4 m0 hq0
    · refine xj_iload F 4 dX9_brokenIn_21 rfl ?_
      refine xj_bipush F 10 dX9_brokenIn_23 (by decide) ?_
      refine xj_imul F dX9_brokenIn_25 (fun v3 => ?_)
      refine xj_istore (lv' := [(4, .int v3), (0, .ref (xad G q0)), (1, .int x1), (2, .int x2), (3, .int x3), (5, .int x5)]) F dX9_brokenIn_26 (by decide) rfl ?_
      refine xj_iinc F 5 1 (fun v4 => [(5, .int v4), (4, .int v3), (0, .ref (xad G q0)), (1, .int x1), (2, .int x2), (3, .int x3)]) dX9_brokenIn_28 rfl (by decide) (by decide) (fun _ => rfl) (fun v4 => ?_)
      refine xj_goto (tgt := 10) F dX9_brokenIn_31 (by decide) ?_
      refine xj_sub (lv' := [(0, .ref (xad G q0)), (1, .int x1), (2, .int x2), (3, .int x3), (4, .int v3), (5, .int v4)]) [2, 3, 4, 5, 1, 0] rfl ?_
      exact hr10 q0 x1 x2 x3 v3 v4 m0 hq0
set_option maxRecDepth 20000 in
set_option maxHeartbeats 4000000 in
theorem wX9_brokenIn {G : XG} {l : Launch} {d : Nat} (hn : xN G) (hdep : 1 ≤ d) {m0 : XM} (hT : xT G m0) {a0 : Nat} {a1 : Int32} (ha0 : isa G a0 9) : ∀ z, fX9_brokenIn (xln G) a0 a1 m0 = some z → xMet G l mX9_brokenIn d [.ref (xad G a0), .int a1] m0 (xrI z) := by
  refine xMet_of (by decide +kernel) hn hT (Nat.le_of_ble_eq_true rfl) (fun X F => ?_)
  refine xj_sub (lv' := [(0, .ref (xad G a0)), (1, .int a1)]) [0, 1] rfl ?_
  unfold fX9_brokenIn
  refine xj_iconst F 0 dX9_brokenIn_0 (by decide) ?_
  refine xj_istore_n (lv' := [(2, .int 0), (0, .ref (xad G a0)), (1, .int a1)]) F dX9_brokenIn_1 (by decide) rfl ?_
  refine xj_iconst F 0 dX9_brokenIn_2 (by decide) ?_
  refine xj_istore_n (lv' := [(3, .int 0), (2, .int 0), (0, .ref (xad G a0)), (1, .int a1)]) F dX9_brokenIn_3 (by decide) rfl ?_
  refine xj_iconst F 1 dX9_brokenIn_4 (by decide) ?_
  refine xj_istore (lv' := [(4, .int 1), (3, .int 0), (2, .int 0), (0, .ref (xad G a0)), (1, .int a1)]) F dX9_brokenIn_5 (by decide) rfl ?_
  refine xj_iconst F 1 dX9_brokenIn_7 (by decide) ?_
  refine xj_istore (lv' := [(5, .int 1), (4, .int 1), (3, .int 0), (2, .int 0), (0, .ref (xad G a0)), (1, .int a1)]) F dX9_brokenIn_8 (by decide) rfl ?_
  refine xj_sub (lv' := [(0, .ref (xad G a0)), (1, .int a1), (2, .int 0), (3, .int 0), (4, .int 1), (5, .int 1)]) [4, 5, 3, 2, 1, 0] rfl ?_
  exact jX9_brokenIn_10 F hdep XF a0 a1 0 0 1 1 m0 ha0
set_option maxRecDepth 20000 in
set_option maxHeartbeats 4000000 in
theorem jX9_laysDirect_2 {G : XG} {l : Launch} {d : Nat} {X : XX} (F : xF (xE G d) G X mX9_laysDirect) (hdep : 1002 ≤ d) : ∀ (n : Nat) (q0 : Nat) (x1 : Int32) (m0 : XM), isa G q0 9 → xJ (xE G d) (xQ xrV G X mX9_laysDirect) G l X mX9_laysDirect 2 [(0, .ref (xad G q0)), (1, .int x1)] [] m0 (fX9_laysDirect_2 (xln G) n q0 x1 m0) := by
  intro n
  induction n with
  | zero => intro q0 x1 m0 hq0; exact xj_none
  | succ n hr2 =>
    intro q0 x1 m0 hq0
    unfold fX9_laysDirect_2
    generalize hrg2 : (fun q0 x1 m0 => fX9_laysDirect_2 (xln G) n q0 x1 m0) = r2
    have hr2 : ∀ (q0 : Nat) (x1 : Int32) (m0 : XM), isa G q0 9 → xJ (xE G d) (xQ xrV G X mX9_laysDirect) G l X mX9_laysDirect 2 [(0, .ref (xad G q0)), (1, .int x1)] [] m0 (r2 q0 x1 m0) := by
      subst hrg2
      exact hr2
    clear hrg2
    refine xj_eq (xv_eq _ _) ?_
    refine xj_iload_n F 1 dX9_laysDirect_2 rfl ?_
    refine xj_aload_n F 0 dX9_laysDirect_3 rfl ?_
    refine xj_getR F hq0 lgX9_20 dX9_laysDirect_4 (fun u1 hu1 => ?_)
    refine xj_iconst F 0 dX9_laysDirect_7 (by decide) ?_
    refine xj_iald F hu1 dX9_laysDirect_8 (fun v2 => ?_)
    refine xj_icmp_ge (tgt := 29) F dX9_laysDirect_9 (by decide) ?_ ?_
    · exact xj_retV F rfl dX9_laysDirect_29
    · refine xj_aload_n F 0 dX9_laysDirect_12 rfl ?_
      refine xj_getR F hq0 lgX9_88 dX9_laysDirect_13 (fun u3 hu3 => ?_)
      refine xj_iload_n F 1 dX9_laysDirect_16 rfl ?_
      refine xj_aload_n F 0 dX9_laysDirect_17 rfl ?_
      refine xj_iload_n F 1 dX9_laysDirect_18 rfl ?_
      refine xj_callVI (b := q0) (As := [.int x1]) (d' := 1001) F hq0 lmX9_416 rfl rfl (Nat.le_of_ble_eq_true rfl) (xfit (Nat.le_trans (Nat.le_of_ble_eq_true rfl) hdep)) dX9_laysDirect_19 (fun hT z hz => wX9_touched (xnd F) (Nat.le_refl _) hT (a0 := q0) (a1 := x1) hq0 z hz) (fun v5 m4 => ?_)
      refine xj_iast F hu3 dX9_laysDirect_22 (fun m6 => ?_)
      refine xj_iinc F 1 1 (fun v7 => [(1, .int v7), (0, .ref (xad G q0))]) dX9_laysDirect_23 rfl (by decide) (by decide) (fun _ => rfl) (fun v7 => ?_)
      refine xj_goto (tgt := 2) F dX9_laysDirect_26 (by decide) ?_
      refine xj_sub (lv' := [(0, .ref (xad G q0)), (1, .int v7)]) [1, 0] rfl ?_
      exact hr2 q0 v7 m6 hq0
set_option maxRecDepth 20000 in
set_option maxHeartbeats 4000000 in
theorem wX9_laysDirect {G : XG} {l : Launch} {d : Nat} (hn : xN G) (hdep : 1002 ≤ d) {m0 : XM} (hT : xT G m0) {a0 : Nat} (ha0 : isa G a0 9) : ∀ z, fX9_laysDirect (xln G) a0 m0 = some z → xMet G l mX9_laysDirect d [.ref (xad G a0)] m0 (xrV z) := by
  refine xMet_of (by decide +kernel) hn hT (Nat.le_of_ble_eq_true rfl) (fun X F => ?_)
  refine xj_sub (lv' := [(0, .ref (xad G a0))]) [0] rfl ?_
  unfold fX9_laysDirect
  refine xj_iconst F 0 dX9_laysDirect_0 (by decide) ?_
  refine xj_istore_n (lv' := [(1, .int 0), (0, .ref (xad G a0))]) F dX9_laysDirect_1 (by decide) rfl ?_
  refine xj_sub (lv' := [(0, .ref (xad G a0)), (1, .int 0)]) [1, 0] rfl ?_
  exact jX9_laysDirect_2 F hdep XF a0 0 m0 ha0
set_option maxRecDepth 20000 in
set_option maxHeartbeats 4000000 in
theorem jX9_least_79 {G : XG} {l : Launch} {d : Nat} {X : XX} (F : xF (xE G d) G X mX9_least) (hdep : 1003 ≤ d) {r45 : Nat → Int32 → Int32 → Int32 → Int32 → XM → Option (Int32 × XM)} (hr45 : ∀ (q0 : Nat) (x1 : Int32) (x2 : Int32) (x3 : Int32) (x4 : Int32) (m0 : XM), isa G q0 9 → xJ (xE G d) (xQ xrI G X mX9_least) G l X mX9_least 45 [(0, .ref (xad G q0)), (1, .int x1), (2, .int x2), (3, .int x3), (4, .int x4)] [] m0 (r45 q0 x1 x2 x3 x4 m0)) : ∀ (q0 : Nat) (x1 : Int32) (x2 : Int32) (x3 : Int32) (m0 : XM), isa G q0 9 → xJ (xE G d) (xQ xrI G X mX9_least) G l X mX9_least 79 [(0, .ref (xad G q0)), (1, .int x1), (2, .int x2), (3, .int x3)] [] m0 (fX9_least_79 (xln G) r45 q0 x1 x2 x3 m0) := by
  intro q0 x1 x2 x3 m0 hq0
  unfold fX9_least_79
  refine xj_aload_n F 0 dX9_least_79 rfl ?_
  refine xj_callVI (b := q0) (As := []) (d' := 1) F hq0 lmX9_404 rfl rfl (Nat.le_of_ble_eq_true rfl) (xfit (Nat.le_trans (Nat.le_of_ble_eq_true rfl) hdep)) dX9_least_80 (fun hT z hz => wX9_nextOrder (xnd F) (Nat.le_refl _) hT (a0 := q0) hq0 z hz) (fun v2 m1 => ?_)
  refine xj_istore (lv' := [(4, .int v2), (0, .ref (xad G q0)), (1, .int x1), (2, .int x2), (3, .int x3)]) F dX9_least_83 (by decide) rfl ?_
  refine xj_goto (tgt := 45) F dX9_least_85 (by decide) ?_
  refine xj_sub (lv' := [(0, .ref (xad G q0)), (1, .int x1), (2, .int x2), (3, .int x3), (4, .int v2)]) [1, 2, 3, 4, 0] rfl ?_
  exact hr45 q0 x1 x2 x3 v2 m1 hq0
set_option maxRecDepth 20000 in
set_option maxHeartbeats 4000000 in
theorem jX9_least_71 {G : XG} {l : Launch} {d : Nat} {X : XX} (F : xF (xE G d) G X mX9_least) (hdep : 1003 ≤ d) {r45 : Nat → Int32 → Int32 → Int32 → Int32 → XM → Option (Int32 × XM)} (hr45 : ∀ (q0 : Nat) (x1 : Int32) (x2 : Int32) (x3 : Int32) (x4 : Int32) (m0 : XM), isa G q0 9 → xJ (xE G d) (xQ xrI G X mX9_least) G l X mX9_least 45 [(0, .ref (xad G q0)), (1, .int x1), (2, .int x2), (3, .int x3), (4, .int x4)] [] m0 (r45 q0 x1 x2 x3 x4 m0)) : ∀ (q0 : Nat) (x1 : Int32) (x5 : Int32) (m0 : XM), isa G q0 9 → xJ (xE G d) (xQ xrI G X mX9_least) G l X mX9_least 71 [(0, .ref (xad G q0)), (1, .int x1), (5, .int x5)] [] m0 (fX9_least_71 (xln G) r45 q0 x1 x5 m0) := by
  intro q0 x1 x5 m0 hq0
  unfold fX9_least_71
  refine xj_iload F 2 dX9_least_71 rfl ?_
  refine xj_istore_n (lv' := [(2, .int x5), (0, .ref (xad G q0)), (1, .int x1), (5, .int x5)]) F dX9_least_73 (by decide) rfl ?_
  refine xj_aload_n F 1 dX9_least_74 rfl ?_
  refine xj_callVI (b := q0) (As := []) (d' := 0) F hq0 lmX9_400 rfl rfl (Nat.le_of_ble_eq_true rfl) (xfit (Nat.le_trans (Nat.le_of_ble_eq_true rfl) hdep)) dX9_least_75 (fun hT z hz => wX9_orderNow (xnd F) (Nat.le_refl _) hT (a0 := q0) hq0 z hz) (fun v2 m1 => ?_)
  refine xj_istore_n (lv' := [(3, .int v2), (2, .int x5), (0, .ref (xad G q0)), (1, .int x1), (5, .int x5)]) F dX9_least_78 (by decide) rfl ?_
  refine xj_sub (lv' := [(0, .ref (xad G q0)), (1, .int x1), (2, .int x5), (3, .int v2)]) [2, 3, 1, 0] rfl ?_
  exact jX9_least_79 F hdep hr45 q0 x1 x5 v2 m1 hq0
set_option maxRecDepth 20000 in
set_option maxHeartbeats 4000000 in
theorem jX9_least_45 {G : XG} {l : Launch} {d : Nat} {X : XX} (F : xF (xE G d) G X mX9_least) (hdep : 1003 ≤ d) : ∀ (n : Nat) (q0 : Nat) (x1 : Int32) (x2 : Int32) (x3 : Int32) (x4 : Int32) (m0 : XM), isa G q0 9 → xJ (xE G d) (xQ xrI G X mX9_least) G l X mX9_least 45 [(0, .ref (xad G q0)), (1, .int x1), (2, .int x2), (3, .int x3), (4, .int x4)] [] m0 (fX9_least_45 (xln G) n q0 x1 x2 x3 x4 m0) := by
  intro n
  induction n with
  | zero => intro q0 x1 x2 x3 x4 m0 hq0; exact xj_none
  | succ n hr45 =>
    intro q0 x1 x2 x3 x4 m0 hq0
    unfold fX9_least_45
    generalize hrg45 : (fun q0 x1 x2 x3 x4 m0 => fX9_least_45 (xln G) n q0 x1 x2 x3 x4 m0) = r45
    have hr45 : ∀ (q0 : Nat) (x1 : Int32) (x2 : Int32) (x3 : Int32) (x4 : Int32) (m0 : XM), isa G q0 9 → xJ (xE G d) (xQ xrI G X mX9_least) G l X mX9_least 45 [(0, .ref (xad G q0)), (1, .int x1), (2, .int x2), (3, .int x3), (4, .int x4)] [] m0 (r45 q0 x1 x2 x3 x4 m0) := by
      subst hrg45
      exact hr45
    clear hrg45
    refine xj_eq (xv_eq _ _) ?_
    refine xj_iload F 4 dX9_least_45 rfl ?_
    refine xj_if_eq (tgt := 88) F dX9_least_47 (by decide) ?_ ?_
    · refine xj_iload_n F 1 dX9_least_88 rfl ?_
      refine xj_if_ne (tgt := 96) F dX9_least_89 (by decide) ?_ ?_
      · refine xj_iload_n F 3 dX9_least_96 rfl ?_
        exact xj_ret F rfl dX9_least_97
      · refine xj_iload_n F 2 dX9_least_92 rfl ?_
        refine xj_goto (tgt := 97) F dX9_least_93 (by decide) ?_
        exact xj_ret F rfl dX9_least_97
    · refine xj_aload_n F 0 dX9_least_50 rfl ?_
      refine xj_aload_n F 0 dX9_least_51 rfl ?_
      refine xj_callVI (b := q0) (As := []) (d' := 0) F hq0 lmX9_400 rfl rfl (Nat.le_of_ble_eq_true rfl) (xfit (Nat.le_trans (Nat.le_of_ble_eq_true rfl) hdep)) dX9_least_52 (fun hT z hz => wX9_orderNow (xnd F) (Nat.le_refl _) hT (a0 := q0) hq0 z hz) (fun v2 m1 => ?_)
      refine xj_callVI (b := q0) (As := [.int v2]) (d' := 1) F hq0 lmX9_428 rfl rfl (Nat.le_of_ble_eq_true rfl) (xfit (Nat.le_trans (Nat.le_of_ble_eq_true rfl) hdep)) dX9_least_55 (fun hT z hz => wX9_brokenIn (xnd F) (Nat.le_refl _) hT (a0 := q0) (a1 := v2) hq0 z hz) (fun v4 m3 => ?_)
      refine xj_istore (lv' := [(5, .int v4), (0, .ref (xad G q0)), (1, .int x1), (2, .int x2), (3, .int x3), (4, .int x4)]) F dX9_least_58 (by decide) rfl ?_
      refine xj_iload_n F 3 dX9_least_60 rfl ?_
      refine xj_iconst F (-1) dX9_least_61 (by decide) ?_
      refine xj_icmp_eq (tgt := 71) F dX9_least_62 (by decide) ?_ ?_
      · refine xj_sub (lv' := [(0, .ref (xad G q0)), (1, .int x1), (5, .int v4)]) [1, 2, 0] rfl ?_
        exact jX9_least_71 F hdep hr45 q0 x1 v4 m3 hq0
      · refine xj_iload F 0 dX9_least_65 rfl ?_
        refine xj_iload_n F 3 dX9_least_67 rfl ?_
        refine xj_icmp_ge (tgt := 79) F dX9_least_68 (by decide) ?_ ?_
        · refine xj_sub (lv' := [(0, .ref (xad G q0)), (1, .int x1), (2, .int x2), (3, .int x3)]) [1, 2, 3, 4] rfl ?_
          exact jX9_least_79 F hdep hr45 q0 x1 x2 x3 m3 hq0
        · refine xj_sub (lv' := [(0, .ref (xad G q0)), (1, .int x1), (5, .int v4)]) [1, 2, 0] rfl ?_
          exact jX9_least_71 F hdep hr45 q0 x1 v4 m3 hq0
set_option maxRecDepth 20000 in
set_option maxHeartbeats 4000000 in
theorem jX9_least_20 {G : XG} {l : Launch} {d : Nat} {X : XX} (F : xF (xE G d) G X mX9_least) (hdep : 1003 ≤ d) : ∀ (q0 : Nat) (x1 : Int32) (p0 : Nat) (s1 : Int32) (m0 : XM), isa G q0 9 → isa G p0 9 → xJ (xE G d) (xQ xrI G X mX9_least) G l X mX9_least 20 [(0, .ref (xad G q0)), (1, .int x1)] [.int s1, .ref (xad G p0)] m0 (fX9_least_20 (xln G) q0 x1 p0 s1 m0) := by
  intro q0 x1 p0 s1 m0 hq0 hp0
  unfold fX9_least_20
  refine xj_iconst F 1 dX9_least_20 (by decide) ?_
  refine xj_iconst F 1 dX9_least_21 (by decide) ?_
  refine xj_callVI (b := p0) (As := [.int s1, .int 1, .int 1]) (d' := 0) F hp0 lmX9_257 rfl rfl (Nat.le_of_ble_eq_true rfl) (xfit (Nat.le_trans (Nat.le_of_ble_eq_true rfl) hdep)) dX9_least_22 (fun hT z hz => wX9_bad (xnd F) (Nat.le_refl _) hT (a0 := p0) (a1 := s1) (a2 := 1) (a3 := 1) hp0 z hz) (fun v2 m1 => ?_)
  refine xj_if_eq (tgt := 30) F dX9_least_25 (by decide) ?_ ?_
  · refine xj_aload_n F 0 dX9_least_30 rfl ?_
    refine xj_callVV (b := q0) (As := []) (d' := 1002) F hq0 lmX9_425 rfl rfl (Nat.le_of_ble_eq_true rfl) (xfit (Nat.le_trans (Nat.le_of_ble_eq_true rfl) hdep)) dX9_least_31 (fun hT z hz => wX9_laysDirect (xnd F) (Nat.le_refl _) hT (a0 := q0) hq0 z hz) (fun m3 => ?_)
    refine xj_iconst F (-1) dX9_least_34 (by decide) ?_
    refine xj_istore_n (lv' := [(2, .int (-1)), (0, .ref (xad G q0)), (1, .int x1)]) F dX9_least_35 (by decide) rfl ?_
    refine xj_iconst F (-1) dX9_least_36 (by decide) ?_
    refine xj_istore_n (lv' := [(3, .int (-1)), (2, .int (-1)), (0, .ref (xad G q0)), (1, .int x1)]) F dX9_least_37 (by decide) rfl ?_
    refine xj_aload_n F 2 dX9_least_38 rfl ?_
    refine xj_callVV (b := q0) (As := []) (d' := 0) F hq0 lmX9_397 rfl rfl (Nat.le_of_ble_eq_true rfl) (xfit (Nat.le_trans (Nat.le_of_ble_eq_true rfl) hdep)) dX9_least_39 (fun hT z hz => wX9_firstOrder (xnd F) (Nat.le_refl _) hT (a0 := q0) hq0 z hz) (fun m4 => ?_)
    refine xj_iconst F 1 dX9_least_42 (by decide) ?_
    refine xj_istore (lv' := [(4, .int 1), (3, .int (-1)), (2, .int (-1)), (0, .ref (xad G q0)), (1, .int x1)]) F dX9_least_43 (by decide) rfl ?_
    refine xj_sub (lv' := [(0, .ref (xad G q0)), (1, .int x1), (2, .int (-1)), (3, .int (-1)), (4, .int 1)]) [3, 4, 2, 1, 0] rfl ?_
    exact jX9_least_45 F hdep XF q0 x1 (-1) (-1) 1 m4 hq0
  · refine xj_iconst F 0 dX9_least_28 (by decide) ?_
    exact xj_ret F rfl dX9_least_29
set_option maxRecDepth 20000 in
set_option maxHeartbeats 4000000 in
theorem wX9_least {G : XG} {l : Launch} {d : Nat} (hn : xN G) (hdep : 1003 ≤ d) {m0 : XM} (hT : xT G m0) {a0 : Nat} {a1 : Int32} (ha0 : isa G a0 9) : ∀ z, fX9_least (xln G) a0 a1 m0 = some z → xMet G l mX9_least d [.ref (xad G a0), .int a1] m0 (xrI z) := by
  refine xMet_of (by decide +kernel) hn hT (Nat.le_of_ble_eq_true rfl) (fun X F => ?_)
  refine xj_sub (lv' := [(0, .ref (xad G a0)), (1, .int a1)]) [0, 1] rfl ?_
  unfold fX9_least
  refine xj_aload_n F 0 dX9_least_0 rfl ?_
  refine xj_iconst F 0 dX9_least_1 (by decide) ?_
  refine xj_put F ha0 lpX9_91 dX9_least_2 (fun m1 => ?_)
  refine xj_aload_n F 0 dX9_least_5 rfl ?_
  refine xj_iload_n F 1 dX9_least_6 rfl ?_
  refine xj_iconst F 0 dX9_least_7 (by decide) ?_
  refine xj_iconst F 1 dX9_least_8 (by decide) ?_
  refine xj_callSI (As := [.int a1, .int 0, .int 1]) (d' := 0) F lmX9_155 rfl rfl (Nat.le_of_ble_eq_true rfl) (xfit (Nat.le_trans (Nat.le_of_ble_eq_true rfl) hdep)) dX9_least_9 (fun hT z hz => wX9_in (xnd F) (Nat.le_refl _) hT (a0 := a1) (a1 := 0) (a2 := 1)  z hz) (fun v3 m2 => ?_)
  refine xj_if_ne (tgt := 19) F dX9_least_12 (by decide) ?_ ?_
  · refine xj_iconst F 0 dX9_least_19 (by decide) ?_
    exact jX9_least_20 F hdep a0 a1 a0 0 m2 ha0 ha0
  · refine xj_iconst F 1 dX9_least_15 (by decide) ?_
    refine xj_goto (tgt := 20) F dX9_least_16 (by decide) ?_
    exact jX9_least_20 F hdep a0 a1 a0 1 m2 ha0 ha0
set_option maxRecDepth 20000 in
set_option maxHeartbeats 4000000 in
theorem jX9_breaks_19 {G : XG} {l : Launch} {d : Nat} {X : XX} (F : xF (xE G d) G X mX9_breaks) (hdep : 1003 ≤ d) : ∀ (q0 : Nat) (x1 : Int32) (p0 : Nat) (s1 : Int32) (m0 : XM), isa G q0 9 → isa G p0 9 → xJ (xE G d) (xQ xrI G X mX9_breaks) G l X mX9_breaks 19 [(0, .ref (xad G q0)), (1, .int x1)] [.int s1, .ref (xad G p0)] m0 (fX9_breaks_19 (xln G) q0 x1 p0 s1 m0) := by
  intro q0 x1 p0 s1 m0 hq0 hp0
  unfold fX9_breaks_19
  refine xj_iconst F 1 dX9_breaks_19 (by decide) ?_
  refine xj_iconst F 1 dX9_breaks_20 (by decide) ?_
  refine xj_callVI (b := p0) (As := [.int s1, .int 1, .int 1]) (d' := 0) F hp0 lmX9_257 rfl rfl (Nat.le_of_ble_eq_true rfl) (xfit (Nat.le_trans (Nat.le_of_ble_eq_true rfl) hdep)) dX9_breaks_21 (fun hT z hz => wX9_bad (xnd F) (Nat.le_refl _) hT (a0 := p0) (a1 := s1) (a2 := 1) (a3 := 1) hp0 z hz) (fun v2 m1 => ?_)
  refine xj_if_eq (tgt := 29) F dX9_breaks_24 (by decide) ?_ ?_
  · refine xj_aload_n F 0 dX9_breaks_29 rfl ?_
    refine xj_callVV (b := q0) (As := []) (d' := 1002) F hq0 lmX9_425 rfl rfl (Nat.le_of_ble_eq_true rfl) (xfit (Nat.le_trans (Nat.le_of_ble_eq_true rfl) hdep)) dX9_breaks_30 (fun hT z hz => wX9_laysDirect (xnd F) (Nat.le_refl _) hT (a0 := q0) hq0 z hz) (fun m3 => ?_)
    refine xj_aload_n F 0 dX9_breaks_33 rfl ?_
    refine xj_iload_n F 1 dX9_breaks_34 rfl ?_
    refine xj_callVI (b := q0) (As := [.int x1]) (d' := 1) F hq0 lmX9_428 rfl rfl (Nat.le_of_ble_eq_true rfl) (xfit (Nat.le_trans (Nat.le_of_ble_eq_true rfl) hdep)) dX9_breaks_35 (fun hT z hz => wX9_brokenIn (xnd F) (Nat.le_refl _) hT (a0 := q0) (a1 := x1) hq0 z hz) (fun v5 m4 => ?_)
    exact xj_ret F rfl dX9_breaks_38
  · refine xj_iconst F 0 dX9_breaks_27 (by decide) ?_
    exact xj_ret F rfl dX9_breaks_28
set_option maxRecDepth 20000 in
set_option maxHeartbeats 4000000 in
theorem wX9_breaks {G : XG} {l : Launch} {d : Nat} (hn : xN G) (hdep : 1003 ≤ d) {m0 : XM} (hT : xT G m0) {a0 : Nat} {a1 : Int32} (ha0 : isa G a0 9) : ∀ z, fX9_breaks (xln G) a0 a1 m0 = some z → xMet G l mX9_breaks d [.ref (xad G a0), .int a1] m0 (xrI z) := by
  refine xMet_of (by decide +kernel) hn hT (Nat.le_of_ble_eq_true rfl) (fun X F => ?_)
  refine xj_sub (lv' := [(0, .ref (xad G a0)), (1, .int a1)]) [0, 1] rfl ?_
  unfold fX9_breaks
  refine xj_aload_n F 0 dX9_breaks_0 rfl ?_
  refine xj_iconst F 0 dX9_breaks_1 (by decide) ?_
  refine xj_put F ha0 lpX9_91 dX9_breaks_2 (fun m1 => ?_)
  refine xj_aload_n F 0 dX9_breaks_5 rfl ?_
  refine xj_aload_n F 0 dX9_breaks_6 rfl ?_
  refine xj_iload_n F 1 dX9_breaks_7 rfl ?_
  refine xj_callVI (b := a0) (As := [.int a1]) (d' := 0) F ha0 lmX9_388 rfl rfl (Nat.le_of_ble_eq_true rfl) (xfit (Nat.le_trans (Nat.le_of_ble_eq_true rfl) hdep)) dX9_breaks_8 (fun hT z hz => wX9_isOrder (xnd F) (Nat.le_refl _) hT (a0 := a0) (a1 := a1) ha0 z hz) (fun v3 m2 => ?_)
  refine xj_if_ne (tgt := 18) F dX9_breaks_11 (by decide) ?_ ?_
  · refine xj_iconst F 0 dX9_breaks_18 (by decide) ?_
    exact jX9_breaks_19 F hdep a0 a1 a0 0 m2 ha0 ha0
  · refine xj_iconst F 1 dX9_breaks_14 (by decide) ?_
    refine xj_goto (tgt := 19) F dX9_breaks_15 (by decide) ?_
    exact jX9_breaks_19 F hdep a0 a1 a0 1 m2 ha0 ha0
set_option maxRecDepth 20000 in
set_option maxHeartbeats 4000000 in
theorem jX9_print_99 {G : XG} {l : Launch} {d : Nat} {X : XX} (F : xF (xE G d) G X mX9_print) (hdep : 604 ≤ d) {r13 : Nat → Int64 → Int32 → XM → Option (Int64 × XM)} (hr13 : ∀ (q0 : Nat) (x1 : Int64) (x3 : Int32) (m0 : XM), isa G q0 9 → xJ (xE G d) (xQ xrL G X mX9_print) G l X mX9_print 13 [(0, .ref (xad G q0)), (1, .long x1), (3, .int x3)] [] m0 (r13 q0 x1 x3 m0)) {r40 : Nat → Int64 → Int32 → Int32 → XM → Option (Int64 × XM)} (hr40 : ∀ (q0 : Nat) (x1 : Int64) (x3 : Int32) (x4 : Int32) (m0 : XM), isa G q0 9 → xJ (xE G d) (xQ xrL G X mX9_print) G l X mX9_print 40 [(0, .ref (xad G q0)), (1, .long x1), (3, .int x3), (4, .int x4)] [] m0 (r40 q0 x1 x3 x4 m0)) : ∀ (q0 : Nat) (x1 : Int64) (x3 : Int32) (x4 : Int32) (m0 : XM), isa G q0 9 → xJ (xE G d) (xQ xrL G X mX9_print) G l X mX9_print 99 [(0, .ref (xad G q0)), (1, .long x1), (3, .int x3), (4, .int x4)] [] m0 (fX9_print_99 (xln G) r13 r40 q0 x1 x3 x4 m0) := by
  intro q0 x1 x3 x4 m0 hq0
  unfold fX9_print_99
  refine xj_iinc F 3 1 (fun v1 => [(4, .int v1), (0, .ref (xad G q0)), (1, .long x1), (3, .int x3)]) dX9_print_99 rfl (by decide) (by decide) (fun _ => rfl) (fun v1 => ?_)
  refine xj_goto (tgt := 40) F dX9_print_102 (by decide) ?_
  refine xj_sub (lv' := [(0, .ref (xad G q0)), (1, .long x1), (3, .int x3), (4, .int v1)]) [1, 2, 3, 0] rfl ?_
  exact hr40 q0 x1 x3 v1 m0 hq0
set_option maxRecDepth 20000 in
set_option maxHeartbeats 4000000 in
theorem jX9_print_40 {G : XG} {l : Launch} {d : Nat} {X : XX} (F : xF (xE G d) G X mX9_print) (hdep : 604 ≤ d) {r13 : Nat → Int64 → Int32 → XM → Option (Int64 × XM)} (hr13 : ∀ (q0 : Nat) (x1 : Int64) (x3 : Int32) (m0 : XM), isa G q0 9 → xJ (xE G d) (xQ xrL G X mX9_print) G l X mX9_print 13 [(0, .ref (xad G q0)), (1, .long x1), (3, .int x3)] [] m0 (r13 q0 x1 x3 m0)) : ∀ (n : Nat) (q0 : Nat) (x1 : Int64) (x3 : Int32) (x4 : Int32) (m0 : XM), isa G q0 9 → xJ (xE G d) (xQ xrL G X mX9_print) G l X mX9_print 40 [(0, .ref (xad G q0)), (1, .long x1), (3, .int x3), (4, .int x4)] [] m0 (fX9_print_40 (xln G) r13 n q0 x1 x3 x4 m0) := by
  intro n
  induction n with
  | zero => intro q0 x1 x3 x4 m0 hq0; exact xj_none
  | succ n hr40 =>
    intro q0 x1 x3 x4 m0 hq0
    unfold fX9_print_40
    generalize hrg40 : (fun q0 x1 x3 x4 m0 => fX9_print_40 (xln G) r13 n q0 x1 x3 x4 m0) = r40
    have hr40 : ∀ (q0 : Nat) (x1 : Int64) (x3 : Int32) (x4 : Int32) (m0 : XM), isa G q0 9 → xJ (xE G d) (xQ xrL G X mX9_print) G l X mX9_print 40 [(0, .ref (xad G q0)), (1, .long x1), (3, .int x3), (4, .int x4)] [] m0 (r40 q0 x1 x3 x4 m0) := by
      subst hrg40
      exact hr40
    clear hrg40
    refine xj_eq (xv_eq _ _) ?_
    refine xj_iload F 3 dX9_print_40 rfl ?_
    refine xj_aload_n F 0 dX9_print_42 rfl ?_
    refine xj_getR F hq0 lgX9_20 dX9_print_43 (fun u1 hu1 => ?_)
    refine xj_iload_n F 2 dX9_print_46 rfl ?_
    refine xj_iconst F 2 dX9_print_47 (by decide) ?_
    refine xj_callSI (As := [.ref (xad G u1), .int x3, .int 2]) (d' := 0) F lmX9_97 rfl rfl (Nat.le_of_ble_eq_true rfl) (xfit (Nat.le_trans (Nat.le_of_ble_eq_true rfl) hdep)) dX9_print_48 (fun hT z hz => wX9_unitOf (xnd F) (Nat.le_refl _) hT (a0 := u1) (a1 := x3) (a2 := 2) hu1 z hz) (fun v3 m2 => ?_)
    refine xj_icmp_ge (tgt := 105) F dX9_print_51 (by decide) ?_ ?_
    · refine xj_iinc F 2 1 (fun v4 => [(3, .int v4), (0, .ref (xad G q0)), (1, .long x1), (4, .int x4)]) dX9_print_105 rfl (by decide) (by decide) (fun _ => rfl) (fun v4 => ?_)
      refine xj_goto (tgt := 13) F dX9_print_108 (by decide) ?_
      refine xj_sub (lv' := [(0, .ref (xad G q0)), (1, .long x1), (3, .int v4)]) [1, 2, 0] rfl ?_
      exact hr13 q0 x1 v4 m2 hq0
    · refine xj_aload_n F 0 dX9_print_54 rfl ?_
      refine xj_getR F hq0 lgX9_20 dX9_print_55 (fun u5 hu5 => ?_)
      refine xj_aload_n F 0 dX9_print_58 rfl ?_
      refine xj_getR F hq0 lgX9_20 dX9_print_59 (fun u6 hu6 => ?_)
      refine xj_iload_n F 2 dX9_print_62 rfl ?_
      refine xj_iload F 3 dX9_print_63 rfl ?_
      refine xj_callSI (As := [.ref (xad G u6), .int x3, .int x4]) (d' := 0) F lmX9_101 rfl rfl (Nat.le_of_ble_eq_true rfl) (xfit (Nat.le_trans (Nat.le_of_ble_eq_true rfl) hdep)) dX9_print_65 (fun hT z hz => wX9_memberAt (xnd F) (Nat.le_refl _) hT (a0 := u6) (a1 := x3) (a2 := x4) hu6 z hz) (fun v8 m7 => ?_)
      refine xj_iconst F 0 dX9_print_68 (by decide) ?_
      refine xj_callSI (As := [.ref (xad G u5), .int v8, .int 0]) (d' := 0) F lmX9_104 rfl rfl (Nat.le_of_ble_eq_true rfl) (xfit (Nat.le_trans (Nat.le_of_ble_eq_true rfl) hdep)) dX9_print_69 (fun hT z hz => wX9_ofMember (xnd F) (Nat.le_refl _) hT (a0 := u5) (a1 := v8) (a2 := 0) hu5 z hz) (fun v10 m9 => ?_)
      refine xj_iconst F 1 dX9_print_72 (by decide) ?_
      refine xj_icmp_ne (tgt := 99) F dX9_print_73 (by decide) ?_ ?_
      · exact jX9_print_99 F hdep hr13 hr40 q0 x1 x3 x4 m9 hq0
      · refine xj_ldc2 F lcX9_431 dX9_print_76 ?_
        refine xj_lload_n F 1 dX9_print_79 rfl ?_
        refine xj_lmul F dX9_print_80 (fun w11 => ?_)
        refine xj_aload_n F 0 dX9_print_81 rfl ?_
        refine xj_getR F hq0 lgX9_45 dX9_print_82 (fun u12 hu12 => ?_)
        refine xj_aload_n F 0 dX9_print_85 rfl ?_
        refine xj_getR F hq0 lgX9_20 dX9_print_86 (fun u13 hu13 => ?_)
        refine xj_iload_n F 2 dX9_print_89 rfl ?_
        refine xj_iload F 3 dX9_print_90 rfl ?_
        refine xj_callSI (As := [.ref (xad G u13), .int x3, .int x4]) (d' := 0) F lmX9_101 rfl rfl (Nat.le_of_ble_eq_true rfl) (xfit (Nat.le_trans (Nat.le_of_ble_eq_true rfl) hdep)) dX9_print_92 (fun hT z hz => wX9_memberAt (xnd F) (Nat.le_refl _) hT (a0 := u13) (a1 := x3) (a2 := x4) hu13 z hz) (fun v15 m14 => ?_)
        refine xj_iald F hu12 dX9_print_95 (fun v16 => ?_)
        refine xj_i2l F dX9_print_96 (fun w17 => ?_)
        refine xj_ladd F dX9_print_97 (fun w18 => ?_)
        refine xj_lstore_n (lv' := [(1, .long w18), (0, .ref (xad G q0)), (3, .int x3), (4, .int x4)]) F dX9_print_98 (by decide) rfl ?_
        refine xj_sub (lv' := [(0, .ref (xad G q0)), (1, .long w18), (3, .int x3), (4, .int x4)]) [1, 0, 2, 3] rfl ?_
        exact jX9_print_99 F hdep hr13 hr40 q0 w18 x3 x4 m14 hq0
set_option maxRecDepth 20000 in
set_option maxHeartbeats 4000000 in
theorem jX9_print_13 {G : XG} {l : Launch} {d : Nat} {X : XX} (F : xF (xE G d) G X mX9_print) (hdep : 604 ≤ d) : ∀ (n : Nat) (q0 : Nat) (x1 : Int64) (x3 : Int32) (m0 : XM), isa G q0 9 → xJ (xE G d) (xQ xrL G X mX9_print) G l X mX9_print 13 [(0, .ref (xad G q0)), (1, .long x1), (3, .int x3)] [] m0 (fX9_print_13 (xln G) n q0 x1 x3 m0) := by
  intro n
  induction n with
  | zero => intro q0 x1 x3 m0 hq0; exact xj_none
  | succ n hr13 =>
    intro q0 x1 x3 m0 hq0
    unfold fX9_print_13
    generalize hrg13 : (fun q0 x1 x3 m0 => fX9_print_13 (xln G) n q0 x1 x3 m0) = r13
    have hr13 : ∀ (q0 : Nat) (x1 : Int64) (x3 : Int32) (m0 : XM), isa G q0 9 → xJ (xE G d) (xQ xrL G X mX9_print) G l X mX9_print 13 [(0, .ref (xad G q0)), (1, .long x1), (3, .int x3)] [] m0 (r13 q0 x1 x3 m0) := by
      subst hrg13
      exact hr13
    clear hrg13
    refine xj_eq (xv_eq _ _) ?_
    refine xj_iload_n F 2 dX9_print_13 rfl ?_
    refine xj_aload_n F 0 dX9_print_14 rfl ?_
    refine xj_getR F hq0 lgX9_20 dX9_print_15 (fun u1 hu1 => ?_)
    refine xj_iconst F 0 dX9_print_18 (by decide) ?_
    refine xj_iald F hu1 dX9_print_19 (fun v2 => ?_)
    refine xj_icmp_ge (tgt := 111) F dX9_print_20 (by decide) ?_ ?_
    · refine xj_lload_n F 1 dX9_print_111 rfl ?_
      exact xj_retL F rfl dX9_print_112
    · refine xj_ldc2 F lcX9_431 dX9_print_23 ?_
      refine xj_lload_n F 1 dX9_print_26 rfl ?_
      refine xj_lmul F dX9_print_27 (fun w3 => ?_)
      refine xj_aload_n F 0 dX9_print_28 rfl ?_
      refine xj_getR F hq0 lgX9_39 dX9_print_29 (fun u4 hu4 => ?_)
      refine xj_iload_n F 2 dX9_print_32 rfl ?_
      refine xj_iald F hu4 dX9_print_33 (fun v5 => ?_)
      refine xj_i2l F dX9_print_34 (fun w6 => ?_)
      refine xj_ladd F dX9_print_35 (fun w7 => ?_)
      refine xj_lstore_n (lv' := [(1, .long w7), (0, .ref (xad G q0)), (3, .int x3)]) F dX9_print_36 (by decide) rfl ?_
      refine xj_iconst F 0 dX9_print_37 (by decide) ?_
      refine xj_istore (lv' := [(4, .int 0), (1, .long w7), (0, .ref (xad G q0)), (3, .int x3)]) F dX9_print_38 (by decide) rfl ?_
      refine xj_sub (lv' := [(0, .ref (xad G q0)), (1, .long w7), (3, .int x3), (4, .int 0)]) [2, 1, 3, 0] rfl ?_
      exact jX9_print_40 F hdep hr13 XF q0 w7 x3 0 m0 hq0
set_option maxRecDepth 20000 in
set_option maxHeartbeats 4000000 in
theorem wX9_print {G : XG} {l : Launch} {d : Nat} (hn : xN G) (hdep : 604 ≤ d) {m0 : XM} (hT : xT G m0) {a0 : Nat} (ha0 : isa G a0 9) : ∀ z, fX9_print (xln G) a0 m0 = some z → xMet G l mX9_print d [.ref (xad G a0)] m0 (xrL z) := by
  refine xMet_of (by decide +kernel) hn hT (Nat.le_of_ble_eq_true rfl) (fun X F => ?_)
  refine xj_sub (lv' := [(0, .ref (xad G a0))]) [0] rfl ?_
  unfold fX9_print
  refine xj_aload_n F 0 dX9_print_0 rfl ?_
  refine xj_iconst F 0 dX9_print_1 (by decide) ?_
  refine xj_put F ha0 lpX9_91 dX9_print_2 (fun m1 => ?_)
  refine xj_aload_n F 0 dX9_print_5 rfl ?_
  refine xj_callVV (b := a0) (As := []) (d' := 603) F ha0 lmX9_382 rfl rfl (Nat.le_of_ble_eq_true rfl) (xfit (Nat.le_trans (Nat.le_of_ble_eq_true rfl) hdep)) dX9_print_6 (fun hT z hz => wX9_lays (xnd F) (Nat.le_refl _) hT (a0 := a0) ha0 z hz) (fun m2 => ?_)
  refine xj_lconst F 0 dX9_print_9 (by decide) ?_
  refine xj_lstore_n (lv' := [(1, .long 0), (0, .ref (xad G a0))]) F dX9_print_10 (by decide) rfl ?_
  refine xj_iconst F 0 dX9_print_11 (by decide) ?_
  refine xj_istore_n (lv' := [(3, .int 0), (1, .long 0), (0, .ref (xad G a0))]) F dX9_print_12 (by decide) rfl ?_
  refine xj_sub (lv' := [(0, .ref (xad G a0)), (1, .long 0), (3, .int 0)]) [2, 1, 0] rfl ?_
  exact jX9_print_13 F hdep XF a0 0 0 m2 ha0
set_option maxRecDepth 20000 in
set_option maxHeartbeats 4000000 in
theorem wX9_status {G : XG} {l : Launch} {d : Nat} (hn : xN G) (hdep : 1 ≤ d) {m0 : XM} (hT : xT G m0) {a0 : Nat} {a1 : Int32} (ha0 : isa G a0 9) : ∀ z, fX9_status (xln G) a0 a1 m0 = some z → xMet G l mX9_status d [.ref (xad G a0), .int a1] m0 (xrI z) := by
  refine xMet_of (by decide +kernel) hn hT (Nat.le_of_ble_eq_true rfl) (fun X F => ?_)
  refine xj_sub (lv' := [(0, .ref (xad G a0)), (1, .int a1)]) [0, 1] rfl ?_
  unfold fX9_status
  refine xj_aload_n F 0 dX9_status_0 rfl ?_
  refine xj_iconst F 0 dX9_status_1 (by decide) ?_
  refine xj_put F ha0 lpX9_91 dX9_status_2 (fun m1 => ?_)
  refine xj_iload_n F 1 dX9_status_5 rfl ?_
  refine xj_iconst F 0 dX9_status_6 (by decide) ?_
  refine xj_iconst F 1 dX9_status_7 (by decide) ?_
  refine xj_callSI (As := [.int a1, .int 0, .int 1]) (d' := 0) F lmX9_155 rfl rfl (Nat.le_of_ble_eq_true rfl) (xfit (Nat.le_trans (Nat.le_of_ble_eq_true rfl) hdep)) dX9_status_8 (fun hT z hz => wX9_in (xnd F) (Nat.le_refl _) hT (a0 := a1) (a1 := 0) (a2 := 1)  z hz) (fun v3 m2 => ?_)
  refine xj_if_eq (tgt := 23) F dX9_status_11 (by decide) ?_ ?_
  · refine xj_iconst F (-1) dX9_status_23 (by decide) ?_
    exact xj_ret F rfl dX9_status_24
  · refine xj_aload_n F 0 dX9_status_14 rfl ?_
    refine xj_getR F ha0 lgX9_9 dX9_status_15 (fun u4 hu4 => ?_)
    refine xj_iload_n F 1 dX9_status_18 rfl ?_
    refine xj_iald F hu4 dX9_status_19 (fun v5 => ?_)
    refine xj_goto (tgt := 24) F dX9_status_20 (by decide) ?_
    exact xj_ret F rfl dX9_status_24
