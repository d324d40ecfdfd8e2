set_option maxRecDepth 20000 in
set_option maxHeartbeats 4000000 in
theorem jX8_putBytes_3 {G : XG} {l : Launch} {d : Nat} {X : XX} (F : xF (xE G d) G X mX8_putBytes) (hdep : 0 ≤ d) : ∀ (n : Nat) (q0 : Nat) (x1 : Int32) (x2 : Int32) (m0 : XM), isa G q0 8 → xJ (xE G d) (xQ xrV G X mX8_putBytes) G l X mX8_putBytes 3 [(0, .ref (xad G q0)), (1, .int x1), (2, .int x2)] [] m0 (fX8_putBytes_3 (xln G) n q0 x1 x2 m0) := by
  intro n
  induction n with
  | zero => intro q0 x1 x2 m0 hq0; exact xj_none
  | succ n hr3 =>
    intro q0 x1 x2 m0 hq0
    unfold fX8_putBytes_3
    generalize hrg3 : (fun q0 x1 x2 m0 => fX8_putBytes_3 (xln G) n q0 x1 x2 m0) = r3
    have hr3 : ∀ (q0 : Nat) (x1 : Int32) (x2 : Int32) (m0 : XM), isa G q0 8 → xJ (xE G d) (xQ xrV G X mX8_putBytes) G l X mX8_putBytes 3 [(0, .ref (xad G q0)), (1, .int x1), (2, .int x2)] [] m0 (r3 q0 x1 x2 m0) := by
      subst hrg3
      exact hr3
    clear hrg3
    refine xj_eq (xv_eq _ _) ?_
    refine xj_iload_n F 2 dX8_putBytes_3 rfl ?_
    refine xj_if_lt (tgt := 49) F dX8_putBytes_4 (by decide) ?_ ?_
    · exact xj_retV F rfl dX8_putBytes_49
    · refine xj_aload_n F 0 dX8_putBytes_7 rfl ?_
      refine xj_get F hq0 lgX8_69 dX8_putBytes_8 (fun v1 => ?_)
      refine xj_sipush F 600 dX8_putBytes_11 (by decide) ?_
      refine xj_icmp_ge (tgt := 49) F dX8_putBytes_14 (by decide) ?_ ?_
      · exact xj_retV F rfl dX8_putBytes_49
      · refine xj_aload_n F 0 dX8_putBytes_17 rfl ?_
        refine xj_getR F hq0 lgX8_9 dX8_putBytes_18 (fun u2 hu2 => ?_)
        refine xj_aload_n F 0 dX8_putBytes_21 rfl ?_
        refine xj_get F hq0 lgX8_69 dX8_putBytes_22 (fun v3 => ?_)
        refine xj_iload_n F 1 dX8_putBytes_25 rfl ?_
        refine xj_iload_n F 2 dX8_putBytes_26 rfl ?_
        refine xj_iushr F dX8_putBytes_27 (fun v4 => ?_)
        refine xj_sipush F 255 dX8_putBytes_28 (by decide) ?_
        refine xj_iand F dX8_putBytes_31 (fun v5 => ?_)
        refine xj_iast F hu2 dX8_putBytes_32 (fun m6 => ?_)
        refine xj_aload_n F 0 dX8_putBytes_33 rfl ?_
        refine xj_dup F dX8_putBytes_34 rfl ?_
        refine xj_get F hq0 lgX8_69 dX8_putBytes_35 (fun v7 => ?_)
        refine xj_iconst F 1 dX8_putBytes_38 (by decide) ?_
        refine xj_iadd F dX8_putBytes_39 (fun v8 => ?_)
        refine xj_put F hq0 lpX8_69 dX8_putBytes_40 (fun m9 => ?_)
        refine xj_iinc F 2 (-8) (fun v10 => [(2, .int v10), (0, .ref (xad G q0)), (1, .int x1)]) dX8_putBytes_43 rfl (by decide) (by decide) (fun _ => rfl) (fun v10 => ?_)
        refine xj_goto (tgt := 3) F dX8_putBytes_46 (by decide) ?_
        refine xj_sub (lv' := [(0, .ref (xad G q0)), (1, .int x1), (2, .int v10)]) [1, 2, 0] rfl ?_
        exact hr3 q0 x1 v10 m9 hq0
set_option maxRecDepth 20000 in
set_option maxHeartbeats 4000000 in
theorem wX8_putBytes {G : XG} {l : Launch} {d : Nat} (hn : xN G) (hdep : 0 ≤ d) {m0 : XM} (hT : xT G m0) {a0 : Nat} {a1 : Int32} (ha0 : isa G a0 8) : ∀ z, fX8_putBytes (xln G) a0 a1 m0 = some z → xMet G l mX8_putBytes d [.ref (xad G a0), .int a1] m0 (xrV z) := by
  refine xMet_of (by decide +kernel) hn hT (Nat.le_of_ble_eq_true rfl) (fun X F => ?_)
  refine xj_sub (lv' := [(0, .ref (xad G a0)), (1, .int a1)]) [0, 1] rfl ?_
  unfold fX8_putBytes
  refine xj_bipush F 24 dX8_putBytes_0 (by decide) ?_
  refine xj_istore_n (lv' := [(2, .int 24), (0, .ref (xad G a0)), (1, .int a1)]) F dX8_putBytes_2 (by decide) rfl ?_
  refine xj_sub (lv' := [(0, .ref (xad G a0)), (1, .int a1), (2, .int 24)]) [1, 2, 0] rfl ?_
  exact jX8_putBytes_3 F hdep XF a0 a1 24 m0 ha0
set_option maxRecDepth 20000 in
set_option maxHeartbeats 4000000 in
theorem wX8_feed {G : XG} {l : Launch} {d : Nat} (hn : xN G) (hdep : 1 ≤ d) {m0 : XM} (hT : xT G m0) {a0 : Nat} {a1 : Int32} {a2 : Int32} {a3 : Int32} {a4 : Int32} {a5 : Int32} (ha0 : isa G a0 8) : ∀ z, fX8_feed (xln G) a0 a1 a2 a3 a4 a5 m0 = some z → xMet G l mX8_feed d [.ref (xad G a0), .int a1, .int a2, .int a3, .int a4, .int a5] m0 (xrI z) := by
  refine xMet_of (by decide +kernel) hn hT (Nat.le_of_ble_eq_true rfl) (fun X F => ?_)
  refine xj_sub (lv' := [(0, .ref (xad G a0)), (1, .int a1), (2, .int a2), (3, .int a3), (4, .int a4), (5, .int a5)]) [0, 1, 2, 3, 4, 5] rfl ?_
  unfold fX8_feed
  refine xj_aload_n F 0 dX8_feed_0 rfl ?_
  refine xj_get F ha0 lgX8_69 dX8_feed_1 (fun v1 => ?_)
  refine xj_bipush F 20 dX8_feed_4 (by decide) ?_
  refine xj_iadd F dX8_feed_6 (fun v2 => ?_)
  refine xj_sipush F 600 dX8_feed_7 (by decide) ?_
  refine xj_icmp_le (tgt := 15) F dX8_feed_10 (by decide) ?_ ?_
  · refine xj_aload_n F 0 dX8_feed_15 rfl ?_
    refine xj_iload_n F 1 dX8_feed_16 rfl ?_
    refine xj_callVV (b := a0) (As := [.int a1]) (d' := 0) F ha0 lmX8_72 rfl rfl (Nat.le_of_ble_eq_true rfl) (xfit (Nat.le_trans (Nat.le_of_ble_eq_true rfl) hdep)) dX8_feed_17 (fun hT z hz => wX8_putBytes (xnd F) (Nat.le_refl _) hT (a0 := a0) (a1 := a1) ha0 z hz) (fun m3 => ?_)
    refine xj_aload_n F 0 dX8_feed_20 rfl ?_
    refine xj_iload_n F 2 dX8_feed_21 rfl ?_
    refine xj_callVV (b := a0) (As := [.int a2]) (d' := 0) F ha0 lmX8_72 rfl rfl (Nat.le_of_ble_eq_true rfl) (xfit (Nat.le_trans (Nat.le_of_ble_eq_true rfl) hdep)) dX8_feed_22 (fun hT z hz => wX8_putBytes (xnd F) (Nat.le_refl _) hT (a0 := a0) (a1 := a2) ha0 z hz) (fun m4 => ?_)
    refine xj_aload_n F 0 dX8_feed_25 rfl ?_
    refine xj_iload_n F 3 dX8_feed_26 rfl ?_
    refine xj_callVV (b := a0) (As := [.int a3]) (d' := 0) F ha0 lmX8_72 rfl rfl (Nat.le_of_ble_eq_true rfl) (xfit (Nat.le_trans (Nat.le_of_ble_eq_true rfl) hdep)) dX8_feed_27 (fun hT z hz => wX8_putBytes (xnd F) (Nat.le_refl _) hT (a0 := a0) (a1 := a3) ha0 z hz) (fun m5 => ?_)
    refine xj_aload_n F 0 dX8_feed_30 rfl ?_
    refine xj_iload F 4 dX8_feed_31 rfl ?_
    refine xj_callVV (b := a0) (As := [.int a4]) (d' := 0) F ha0 lmX8_72 rfl rfl (Nat.le_of_ble_eq_true rfl) (xfit (Nat.le_trans (Nat.le_of_ble_eq_true rfl) hdep)) dX8_feed_33 (fun hT z hz => wX8_putBytes (xnd F) (Nat.le_refl _) hT (a0 := a0) (a1 := a4) ha0 z hz) (fun m6 => ?_)
    refine xj_aload_n F 0 dX8_feed_36 rfl ?_
    refine xj_iload F 5 dX8_feed_37 rfl ?_
    refine xj_callVV (b := a0) (As := [.int a5]) (d' := 0) F ha0 lmX8_72 rfl rfl (Nat.le_of_ble_eq_true rfl) (xfit (Nat.le_trans (Nat.le_of_ble_eq_true rfl) hdep)) dX8_feed_39 (fun hT z hz => wX8_putBytes (xnd F) (Nat.le_refl _) hT (a0 := a0) (a1 := a5) ha0 z hz) (fun m7 => ?_)
    refine xj_aload_n F 0 dX8_feed_42 rfl ?_
    refine xj_get F ha0 lgX8_69 dX8_feed_43 (fun v8 => ?_)
    exact xj_ret F rfl dX8_feed_46
  · refine xj_iconst F (-1) dX8_feed_13 (by decide) ?_
    exact xj_ret F rfl dX8_feed_14
set_option maxRecDepth 20000 in
set_option maxHeartbeats 4000000 in
theorem wX8_needArgument {G : XG} {l : Launch} {d : Nat} (hn : xN G) (hdep : 0 ≤ d) {m0 : XM} (hT : xT G m0) {a0 : Nat} {a1 : Int32} (ha0 : isa G a0 8) : ∀ z, fX8_needArgument (xln G) a0 a1 m0 = some z → xMet G l mX8_needArgument d [.ref (xad G a0), .int a1] m0 (xrV z) := by
  refine xMet_of (by decide +kernel) hn hT (Nat.le_of_ble_eq_true rfl) (fun X F => ?_)
  refine xj_sub (lv' := [(0, .ref (xad G a0)), (1, .int a1)]) [0, 1] rfl ?_
  unfold fX8_needArgument
  refine xj_iload_n F 1 dX8_needArgument_0 rfl ?_
  refine xj_if_ne (tgt := 25) F dX8_needArgument_1 (by decide) ?_ ?_
  · exact xj_retV F rfl dX8_needArgument_25
  · refine xj_aload_n F 0 dX8_needArgument_4 rfl ?_
    refine xj_dup F dX8_needArgument_5 rfl ?_
    refine xj_get F ha0 lgX8_265 dX8_needArgument_6 (fun v1 => ?_)
    refine xj_iconst F 1 dX8_needArgument_9 (by decide) ?_
    refine xj_iadd F dX8_needArgument_10 (fun v2 => ?_)
    refine xj_put F ha0 lpX8_265 dX8_needArgument_11 (fun m3 => ?_)
    exact xj_none
set_option maxRecDepth 20000 in
set_option maxHeartbeats 4000000 in
theorem wX8_forgetRuns {G : XG} {l : Launch} {d : Nat} (hn : xN G) (hdep : 0 ≤ d) {m0 : XM} (hT : xT G m0) {a0 : Nat} (ha0 : isa G a0 8) : ∀ z, fX8_forgetRuns (xln G) a0 m0 = some z → xMet G l mX8_forgetRuns d [.ref (xad G a0)] m0 (xrV z) := by
  refine xMet_of (by decide +kernel) hn hT (Nat.le_of_ble_eq_true rfl) (fun X F => ?_)
  refine xj_sub (lv' := [(0, .ref (xad G a0))]) [0] rfl ?_
  unfold fX8_forgetRuns
  refine xj_aload_n F 0 dX8_forgetRuns_0 rfl ?_
  refine xj_iconst F 0 dX8_forgetRuns_1 (by decide) ?_
  refine xj_putZ F ha0 lpX8_283 rfl rfl dX8_forgetRuns_2 (fun m1 => ?_)
  refine xj_aload_n F 0 dX8_forgetRuns_5 rfl ?_
  refine xj_getR F ha0 lgX8_54 dX8_forgetRuns_6 (fun u2 hu2 => ?_)
  refine xj_iconst F 0 dX8_forgetRuns_9 (by decide) ?_
  refine xj_putZ F hu2 lpX8_286 rfl rfl dX8_forgetRuns_10 (fun m3 => ?_)
  exact xj_retV F rfl dX8_forgetRuns_13
set_option maxRecDepth 20000 in
set_option maxHeartbeats 4000000 in
theorem jX8_text_18 {G : XG} {l : Launch} {d : Nat} {X : XX} (F : xF (xE G d) G X mX8_text) (hdep : 46 ≤ d) : ∀ (q0 : Nat) (x1 : Int32) (p0 : Nat) (s1 : Int32) (m0 : XM), isa G q0 8 → isa G p0 8 → xJ (xE G d) (xQ xrI G X mX8_text) G l X mX8_text 18 [(0, .ref (xad G q0)), (1, .int x1)] [.int s1, .ref (xad G p0)] m0 (fX8_text_18 (xln G) q0 x1 p0 s1 m0) := by
  intro q0 x1 p0 s1 m0 hq0 hp0
  unfold fX8_text_18
  refine xj_callVV (b := p0) (As := [.int s1]) (d' := 0) F hp0 lmX8_76 rfl rfl (Nat.le_of_ble_eq_true rfl) (xfit (Nat.le_trans (Nat.le_of_ble_eq_true rfl) hdep)) dX8_text_18 (fun hT z hz => wX8_needArgument (xnd F) (Nat.le_refl _) hT (a0 := p0) (a1 := s1) hp0 z hz) (fun m1 => ?_)
  refine xj_aload_n F 0 dX8_text_21 rfl ?_
  refine xj_getR F hq0 lgX8_16 dX8_text_22 (fun u2 hu2 => ?_)
  refine xj_aload_n F 0 dX8_text_25 rfl ?_
  refine xj_getR F hq0 lgX8_9 dX8_text_26 (fun u3 hu3 => ?_)
  refine xj_iload_n F 1 dX8_text_29 rfl ?_
  refine xj_callVI (b := u2) (As := [.ref (xad G u3), .int x1]) (d' := 45) F hu2 lmX8_80 rfl rfl (Nat.le_of_ble_eq_true rfl) (xfit (Nat.le_trans (Nat.le_of_ble_eq_true rfl) hdep)) dX8_text_30 (fun hT z hz => wX1_readText (xnd F) (Nat.le_refl _) hT (a0 := u2) (a1 := u3) (a2 := x1) hu2 hu3 z hz) (fun v5 m4 => ?_)
  refine xj_istore_n (lv' := [(2, .int v5), (0, .ref (xad G q0)), (1, .int x1)]) F dX8_text_33 (by decide) rfl ?_
  refine xj_aload_n F 1 dX8_text_34 rfl ?_
  refine xj_iconst F 0 dX8_text_35 (by decide) ?_
  refine xj_put F hq0 lpX8_69 dX8_text_36 (fun m6 => ?_)
  refine xj_iload_n F 0 dX8_text_39 rfl ?_
  refine xj_if_eq (tgt := 59) F dX8_text_40 (by decide) ?_ ?_
  · refine xj_aload_n F 1 dX8_text_59 rfl ?_
    refine xj_iconst F (-1) dX8_text_60 (by decide) ?_
    refine xj_put F hq0 lpX8_65 dX8_text_61 (fun m7 => ?_)
    refine xj_aload_n F 1 dX8_text_64 rfl ?_
    refine xj_aload_n F 1 dX8_text_65 rfl ?_
    refine xj_getR F hq0 lgX8_16 dX8_text_66 (fun u8 hu8 => ?_)
    refine xj_aload_n F 1 dX8_text_69 rfl ?_
    refine xj_getR F hq0 lgX8_23 dX8_text_70 (fun u9 hu9 => ?_)
    refine xj_callVR (b := u8) (As := [.ref (xad G u9)]) (d' := 0) F hu8 lmX8_87 rfl rfl (Nat.le_of_ble_eq_true rfl) (xfit (Nat.le_trans (Nat.le_of_ble_eq_true rfl) hdep)) dX8_text_73 (fun hT z hz => wX1_handOver (xnd F) (Nat.le_refl _) hT (a0 := u8) (a1 := u9) hu8 hu9 z hz) (fun u11 m10 hu11 => ?_)
    refine xj_putR F hq0 lpX8_23 hu11 dX8_text_76 (fun m12 => ?_)
    refine xj_aload_n F 1 dX8_text_79 rfl ?_
    refine xj_getR F hq0 lgX8_30 dX8_text_80 (fun u13 hu13 => ?_)
    refine xj_callVV (b := u13) (As := []) (d' := 0) F hu13 lmX8_91 rfl rfl (Nat.le_of_ble_eq_true rfl) (xfit (Nat.le_trans (Nat.le_of_ble_eq_true rfl) hdep)) dX8_text_83 (fun hT z hz => wX0_forget (xnd F) (Nat.le_refl _) hT (a0 := u13) hu13 z hz) (fun m14 => ?_)
    refine xj_aload_n F 1 dX8_text_86 rfl ?_
    refine xj_callVV (b := q0) (As := []) (d' := 0) F hq0 lmX8_94 rfl rfl (Nat.le_of_ble_eq_true rfl) (xfit (Nat.le_trans (Nat.le_of_ble_eq_true rfl) hdep)) dX8_text_87 (fun hT z hz => wX8_forgetRuns (xnd F) (Nat.le_refl _) hT (a0 := q0) hq0 z hz) (fun m15 => ?_)
    refine xj_aload_n F 1 dX8_text_90 rfl ?_
    refine xj_getR F hq0 lgX8_23 dX8_text_91 (fun u16 hu16 => ?_)
    refine xj_get F hu16 lgX8_97 dX8_text_94 (fun v17 => ?_)
    exact xj_ret F rfl dX8_text_97
  · refine xj_aload_n F 1 dX8_text_43 rfl ?_
    refine xj_aload_n F 1 dX8_text_44 rfl ?_
    refine xj_getR F hq0 lgX8_16 dX8_text_45 (fun u18 hu18 => ?_)
    refine xj_callVI (b := u18) (As := []) (d' := 0) F hu18 lmX8_84 rfl rfl (Nat.le_of_ble_eq_true rfl) (xfit (Nat.le_trans (Nat.le_of_ble_eq_true rfl) hdep)) dX8_text_48 (fun hT z hz => wX1_faultPlace (xnd F) (Nat.le_refl _) hT (a0 := u18) hu18 z hz) (fun v20 m19 => ?_)
    refine xj_put F hq0 lpX8_65 dX8_text_51 (fun m21 => ?_)
    refine xj_iload_n F 0 dX8_text_54 rfl ?_
    refine xj_bipush F 10 dX8_text_55 (by decide) ?_
    refine xj_isub F dX8_text_57 (fun v22 => ?_)
    exact xj_ret F rfl dX8_text_58
set_option maxRecDepth 20000 in
set_option maxHeartbeats 4000000 in
theorem jX8_text_17 {G : XG} {l : Launch} {d : Nat} {X : XX} (F : xF (xE G d) G X mX8_text) (hdep : 46 ≤ d) : ∀ (q0 : Nat) (x1 : Int32) (p0 : Nat) (m0 : XM), isa G q0 8 → isa G p0 8 → xJ (xE G d) (xQ xrI G X mX8_text) G l X mX8_text 17 [(0, .ref (xad G q0)), (1, .int x1)] [.ref (xad G p0)] m0 (fX8_text_17 (xln G) q0 x1 p0 m0) := by
  intro q0 x1 p0 m0 hq0 hp0
  unfold fX8_text_17
  refine xj_iconst F 0 dX8_text_17 (by decide) ?_
  exact jX8_text_18 F hdep q0 x1 p0 0 m0 hq0 hp0
set_option maxRecDepth 20000 in
set_option maxHeartbeats 4000000 in
theorem wX8_text {G : XG} {l : Launch} {d : Nat} (hn : xN G) (hdep : 46 ≤ d) {m0 : XM} (hT : xT G m0) {a0 : Nat} {a1 : Int32} (ha0 : isa G a0 8) : ∀ z, fX8_text (xln G) a0 a1 m0 = some z → xMet G l mX8_text d [.ref (xad G a0), .int a1] m0 (xrI z) := by
  refine xMet_of (by decide +kernel) hn hT (Nat.le_of_ble_eq_true rfl) (fun X F => ?_)
  refine xj_sub (lv' := [(0, .ref (xad G a0)), (1, .int a1)]) [0, 1] rfl ?_
  unfold fX8_text
  refine xj_aload_n F 0 dX8_text_0 rfl ?_
  refine xj_iload_n F 1 dX8_text_1 rfl ?_
  refine xj_if_lt (tgt := 17) F dX8_text_2 (by decide) ?_ ?_
  · exact jX8_text_17 F hdep a0 a1 a0 m0 ha0 ha0
  · refine xj_iload_n F 1 dX8_text_5 rfl ?_
    refine xj_aload_n F 0 dX8_text_6 rfl ?_
    refine xj_get F ha0 lgX8_69 dX8_text_7 (fun v1 => ?_)
    refine xj_icmp_gt (tgt := 17) F dX8_text_10 (by decide) ?_ ?_
    · exact jX8_text_17 F hdep a0 a1 a0 m0 ha0 ha0
    · refine xj_iconst F 1 dX8_text_13 (by decide) ?_
      refine xj_goto (tgt := 18) F dX8_text_14 (by decide) ?_
      exact jX8_text_18 F hdep a0 a1 a0 1 m0 ha0 ha0
set_option maxRecDepth 20000 in
set_option maxHeartbeats 4000000 in
theorem wX8_fault {G : XG} {l : Launch} {d : Nat} (hn : xN G) (hdep : 0 ≤ d) {m0 : XM} (hT : xT G m0) {a0 : Nat} (ha0 : isa G a0 8) : ∀ z, fX8_fault (xln G) a0 m0 = some z → xMet G l mX8_fault d [.ref (xad G a0)] m0 (xrI z) := by
  refine xMet_of (by decide +kernel) hn hT (Nat.le_of_ble_eq_true rfl) (fun X F => ?_)
  refine xj_sub (lv' := [(0, .ref (xad G a0))]) [0] rfl ?_
  unfold fX8_fault
  refine xj_aload_n F 0 dX8_fault_0 rfl ?_
  refine xj_get F ha0 lgX8_65 dX8_fault_1 (fun v1 => ?_)
  exact xj_ret F rfl dX8_fault_4
set_option maxRecDepth 20000 in
set_option maxHeartbeats 4000000 in
theorem wX8_needElement {G : XG} {l : Launch} {d : Nat} (hn : xN G) (hdep : 0 ≤ d) {m0 : XM} (hT : xT G m0) {a0 : Nat} {a1 : Int32} (ha0 : isa G a0 8) : ∀ z, fX8_needElement (xln G) a0 a1 m0 = some z → xMet G l mX8_needElement d [.ref (xad G a0), .int a1] m0 (xrV z) := by
  refine xMet_of (by decide +kernel) hn hT (Nat.le_of_ble_eq_true rfl) (fun X F => ?_)
  refine xj_sub (lv' := [(0, .ref (xad G a0)), (1, .int a1)]) [0, 1] rfl ?_
  unfold fX8_needElement
  refine xj_iload_n F 1 dX8_needElement_0 rfl ?_
  refine xj_if_ne (tgt := 25) F dX8_needElement_1 (by decide) ?_ ?_
  · exact xj_retV F rfl dX8_needElement_25
  · refine xj_aload_n F 0 dX8_needElement_4 rfl ?_
    refine xj_dup F dX8_needElement_5 rfl ?_
    refine xj_get F ha0 lgX8_262 dX8_needElement_6 (fun v1 => ?_)
    refine xj_iconst F 1 dX8_needElement_9 (by decide) ?_
    refine xj_iadd F dX8_needElement_10 (fun v2 => ?_)
    refine xj_put F ha0 lpX8_262 dX8_needElement_11 (fun m3 => ?_)
    exact xj_none
set_option maxRecDepth 20000 in
set_option maxHeartbeats 4000000 in
theorem jX8_needUnit_20 {G : XG} {l : Launch} {d : Nat} {X : XX} (F : xF (xE G d) G X mX8_needUnit) (hdep : 1 ≤ d) : ∀ (p0 : Nat) (m0 : XM), isa G p0 8 → xJ (xE G d) (xQ xrV G X mX8_needUnit) G l X mX8_needUnit 20 [] [.ref (xad G p0)] m0 (fX8_needUnit_20 (xln G) p0 m0) := by
  intro p0 m0 hp0
  unfold fX8_needUnit_20
  refine xj_iconst F 0 dX8_needUnit_20 (by decide) ?_
  refine xj_callVV (b := p0) (As := [.int 0]) (d' := 0) F hp0 lmX8_181 rfl rfl (Nat.le_of_ble_eq_true rfl) (xfit (Nat.le_trans (Nat.le_of_ble_eq_true rfl) hdep)) dX8_needUnit_21 (fun hT z hz => wX8_needElement (xnd F) (Nat.le_refl _) hT (a0 := p0) (a1 := 0) hp0 z hz) (fun m1 => ?_)
  exact xj_retV F rfl dX8_needUnit_24
set_option maxRecDepth 20000 in
set_option maxHeartbeats 4000000 in
theorem wX8_needUnit {G : XG} {l : Launch} {d : Nat} (hn : xN G) (hdep : 1 ≤ d) {m0 : XM} (hT : xT G m0) {a0 : Nat} {a1 : Int32} (ha0 : isa G a0 8) : ∀ z, fX8_needUnit (xln G) a0 a1 m0 = some z → xMet G l mX8_needUnit d [.ref (xad G a0), .int a1] m0 (xrV z) := by
  refine xMet_of (by decide +kernel) hn hT (Nat.le_of_ble_eq_true rfl) (fun X F => ?_)
  refine xj_sub (lv' := [(0, .ref (xad G a0)), (1, .int a1)]) [0, 1] rfl ?_
  unfold fX8_needUnit
  refine xj_aload_n F 0 dX8_needUnit_0 rfl ?_
  refine xj_iload_n F 1 dX8_needUnit_1 rfl ?_
  refine xj_if_lt (tgt := 20) F dX8_needUnit_2 (by decide) ?_ ?_
  · refine xj_sub (lv' := []) [] rfl ?_
    exact jX8_needUnit_20 F hdep a0 m0 ha0
  · refine xj_iload_n F 1 dX8_needUnit_5 rfl ?_
    refine xj_aload_n F 0 dX8_needUnit_6 rfl ?_
    refine xj_getR F ha0 lgX8_23 dX8_needUnit_7 (fun u1 hu1 => ?_)
    refine xj_get F hu1 lgX8_97 dX8_needUnit_10 (fun v2 => ?_)
    refine xj_icmp_ge (tgt := 20) F dX8_needUnit_13 (by decide) ?_ ?_
    · refine xj_sub (lv' := []) [] rfl ?_
      exact jX8_needUnit_20 F hdep a0 m0 ha0
    · refine xj_iconst F 1 dX8_needUnit_16 (by decide) ?_
      refine xj_goto (tgt := 21) F dX8_needUnit_17 (by decide) ?_
      refine xj_callVV (b := a0) (As := [.int 1]) (d' := 0) F ha0 lmX8_181 rfl rfl (Nat.le_of_ble_eq_true rfl) (xfit (Nat.le_trans (Nat.le_of_ble_eq_true rfl) hdep)) dX8_needUnit_21 (fun hT z hz => wX8_needElement (xnd F) (Nat.le_refl _) hT (a0 := a0) (a1 := 1) ha0 z hz) (fun m3 => ?_)
      exact xj_retV F rfl dX8_needUnit_24
set_option maxRecDepth 20000 in
set_option maxHeartbeats 4000000 in
theorem jX8_needMember_27 {G : XG} {l : Launch} {d : Nat} {X : XX} (F : xF (xE G d) G X mX8_needMember) (hdep : 2 ≤ d) : ∀ (p0 : Nat) (m0 : XM), isa G p0 8 → xJ (xE G d) (xQ xrV G X mX8_needMember) G l X mX8_needMember 27 [] [.ref (xad G p0)] m0 (fX8_needMember_27 (xln G) p0 m0) := by
  intro p0 m0 hp0
  unfold fX8_needMember_27
  refine xj_iconst F 0 dX8_needMember_27 (by decide) ?_
  refine xj_callVV (b := p0) (As := [.int 0]) (d' := 0) F hp0 lmX8_181 rfl rfl (Nat.le_of_ble_eq_true rfl) (xfit (Nat.le_trans (Nat.le_of_ble_eq_true rfl) hdep)) dX8_needMember_28 (fun hT z hz => wX8_needElement (xnd F) (Nat.le_refl _) hT (a0 := p0) (a1 := 0) hp0 z hz) (fun m1 => ?_)
  exact xj_retV F rfl dX8_needMember_31
set_option maxRecDepth 20000 in
set_option maxHeartbeats 4000000 in
theorem wX8_needMember {G : XG} {l : Launch} {d : Nat} (hn : xN G) (hdep : 2 ≤ d) {m0 : XM} (hT : xT G m0) {a0 : Nat} {a1 : Int32} {a2 : Int32} (ha0 : isa G a0 8) : ∀ z, fX8_needMember (xln G) a0 a1 a2 m0 = some z → xMet G l mX8_needMember d [.ref (xad G a0), .int a1, .int a2] m0 (xrV z) := by
  refine xMet_of (by decide +kernel) hn hT (Nat.le_of_ble_eq_true rfl) (fun X F => ?_)
  refine xj_sub (lv' := [(0, .ref (xad G a0)), (1, .int a1), (2, .int a2)]) [0, 1, 2] rfl ?_
  unfold fX8_needMember
  refine xj_aload_n F 0 dX8_needMember_0 rfl ?_
  refine xj_iload_n F 1 dX8_needMember_1 rfl ?_
  refine xj_callVV (b := a0) (As := [.int a1]) (d' := 1) F ha0 lmX8_136 rfl rfl (Nat.le_of_ble_eq_true rfl) (xfit (Nat.le_trans (Nat.le_of_ble_eq_true rfl) hdep)) dX8_needMember_2 (fun hT z hz => wX8_needUnit (xnd F) (Nat.le_refl _) hT (a0 := a0) (a1 := a1) ha0 z hz) (fun m1 => ?_)
  refine xj_aload_n F 0 dX8_needMember_5 rfl ?_
  refine xj_iload_n F 2 dX8_needMember_6 rfl ?_
  refine xj_if_lt (tgt := 27) F dX8_needMember_7 (by decide) ?_ ?_
  · refine xj_sub (lv' := []) [] rfl ?_
    exact jX8_needMember_27 F hdep a0 m1 ha0
  · refine xj_iload_n F 2 dX8_needMember_10 rfl ?_
    refine xj_aload_n F 0 dX8_needMember_11 rfl ?_
    refine xj_getR F ha0 lgX8_23 dX8_needMember_12 (fun u2 hu2 => ?_)
    refine xj_getR F hu2 lgX8_145 dX8_needMember_15 (fun u3 hu3 => ?_)
    refine xj_iload_n F 1 dX8_needMember_18 rfl ?_
    refine xj_iald F hu3 dX8_needMember_19 (fun v4 => ?_)
    refine xj_icmp_ge (tgt := 27) F dX8_needMember_20 (by decide) ?_ ?_
    · refine xj_sub (lv' := []) [] rfl ?_
      exact jX8_needMember_27 F hdep a0 m1 ha0
    · refine xj_iconst F 1 dX8_needMember_23 (by decide) ?_
      refine xj_goto (tgt := 28) F dX8_needMember_24 (by decide) ?_
      refine xj_callVV (b := a0) (As := [.int 1]) (d' := 0) F ha0 lmX8_181 rfl rfl (Nat.le_of_ble_eq_true rfl) (xfit (Nat.le_trans (Nat.le_of_ble_eq_true rfl) hdep)) dX8_needMember_28 (fun hT z hz => wX8_needElement (xnd F) (Nat.le_refl _) hT (a0 := a0) (a1 := 1) ha0 z hz) (fun m5 => ?_)
      exact xj_retV F rfl dX8_needMember_31
set_option maxRecDepth 20000 in
set_option maxHeartbeats 4000000 in
theorem wX8_move {G : XG} {l : Launch} {d : Nat} (hn : xN G) (hdep : 3 ≤ d) {m0 : XM} (hT : xT G m0) {a0 : Nat} {a1 : Int32} {a2 : Int32} {a3 : Int32} (ha0 : isa G a0 8) : ∀ z, fX8_move (xln G) a0 a1 a2 a3 m0 = some z → xMet G l mX8_move d [.ref (xad G a0), .int a1, .int a2, .int a3] m0 (xrI z) := by
  refine xMet_of (by decide +kernel) hn hT (Nat.le_of_ble_eq_true rfl) (fun X F => ?_)
  refine xj_sub (lv' := [(0, .ref (xad G a0)), (1, .int a1), (2, .int a2), (3, .int a3)]) [0, 1, 2, 3] rfl ?_
  unfold fX8_move
  refine xj_aload_n F 0 dX8_move_0 rfl ?_
  refine xj_iload_n F 1 dX8_move_1 rfl ?_
  refine xj_iload_n F 2 dX8_move_2 rfl ?_
  refine xj_callVV (b := a0) (As := [.int a1, .int a2]) (d' := 2) F ha0 lmX8_100 rfl rfl (Nat.le_of_ble_eq_true rfl) (xfit (Nat.le_trans (Nat.le_of_ble_eq_true rfl) hdep)) dX8_move_3 (fun hT z hz => wX8_needMember (xnd F) (Nat.le_refl _) hT (a0 := a0) (a1 := a1) (a2 := a2) ha0 z hz) (fun m1 => ?_)
  refine xj_aload_n F 0 dX8_move_6 rfl ?_
  refine xj_iload_n F 1 dX8_move_7 rfl ?_
  refine xj_iload_n F 3 dX8_move_8 rfl ?_
  refine xj_callVV (b := a0) (As := [.int a1, .int a3]) (d' := 2) F ha0 lmX8_100 rfl rfl (Nat.le_of_ble_eq_true rfl) (xfit (Nat.le_trans (Nat.le_of_ble_eq_true rfl) hdep)) dX8_move_9 (fun hT z hz => wX8_needMember (xnd F) (Nat.le_refl _) hT (a0 := a0) (a1 := a1) (a2 := a3) ha0 z hz) (fun m2 => ?_)
  refine xj_iload_n F 2 dX8_move_12 rfl ?_
  refine xj_iload_n F 3 dX8_move_13 rfl ?_
  refine xj_icmp_ne (tgt := 19) F dX8_move_14 (by decide) ?_ ?_
  · refine xj_aload_n F 0 dX8_move_19 rfl ?_
    refine xj_getR F ha0 lgX8_23 dX8_move_20 (fun u3 hu3 => ?_)
    refine xj_iload_n F 1 dX8_move_23 rfl ?_
    refine xj_iload_n F 2 dX8_move_24 rfl ?_
    refine xj_iload_n F 3 dX8_move_25 rfl ?_
    refine xj_callVV (b := u3) (As := [.int a1, .int a2, .int a3]) (d' := 0) F hu3 lmX8_104 rfl rfl (Nat.le_of_ble_eq_true rfl) (xfit (Nat.le_trans (Nat.le_of_ble_eq_true rfl) hdep)) dX8_move_26 (fun hT z hz => wX6_shift (xnd F) (Nat.le_refl _) hT (a0 := u3) (a1 := a1) (a2 := a2) (a3 := a3) hu3 z hz) (fun m4 => ?_)
    refine xj_aload_n F 0 dX8_move_29 rfl ?_
    refine xj_getR F ha0 lgX8_30 dX8_move_30 (fun u5 hu5 => ?_)
    refine xj_iload_n F 1 dX8_move_33 rfl ?_
    refine xj_iload_n F 2 dX8_move_34 rfl ?_
    refine xj_iload_n F 3 dX8_move_35 rfl ?_
    refine xj_callVV (b := u5) (As := [.int a1, .int a2, .int a3]) (d' := 1) F hu5 lmX8_108 rfl rfl (Nat.le_of_ble_eq_true rfl) (xfit (Nat.le_trans (Nat.le_of_ble_eq_true rfl) hdep)) dX8_move_36 (fun hT z hz => wX0_note (xnd F) (Nat.le_refl _) hT (a0 := u5) (a1 := a1) (a2 := a2) (a3 := a3) hu5 z hz) (fun m6 => ?_)
    refine xj_aload_n F 0 dX8_move_39 rfl ?_
    refine xj_callVV (b := a0) (As := []) (d' := 0) F ha0 lmX8_94 rfl rfl (Nat.le_of_ble_eq_true rfl) (xfit (Nat.le_trans (Nat.le_of_ble_eq_true rfl) hdep)) dX8_move_40 (fun hT z hz => wX8_forgetRuns (xnd F) (Nat.le_refl _) hT (a0 := a0) ha0 z hz) (fun m7 => ?_)
    refine xj_iconst F 1 dX8_move_43 (by decide) ?_
    exact xj_ret F rfl dX8_move_44
  · refine xj_iconst F 0 dX8_move_17 (by decide) ?_
    exact xj_ret F rfl dX8_move_18
set_option maxRecDepth 20000 in
set_option maxHeartbeats 4000000 in
theorem wX8_turn {G : XG} {l : Launch} {d : Nat} (hn : xN G) (hdep : 3 ≤ d) {m0 : XM} (hT : xT G m0) {a0 : Nat} {a1 : Int32} {a2 : Int32} (ha0 : isa G a0 8) : ∀ z, fX8_turn (xln G) a0 a1 a2 m0 = some z → xMet G l mX8_turn d [.ref (xad G a0), .int a1, .int a2] m0 (xrI z) := by
  refine xMet_of (by decide +kernel) hn hT (Nat.le_of_ble_eq_true rfl) (fun X F => ?_)
  refine xj_sub (lv' := [(0, .ref (xad G a0)), (1, .int a1), (2, .int a2)]) [0, 1, 2] rfl ?_
  unfold fX8_turn
  refine xj_aload_n F 0 dX8_turn_0 rfl ?_
  refine xj_iload_n F 1 dX8_turn_1 rfl ?_
  refine xj_iload_n F 2 dX8_turn_2 rfl ?_
  refine xj_callVV (b := a0) (As := [.int a1, .int a2]) (d' := 2) F ha0 lmX8_100 rfl rfl (Nat.le_of_ble_eq_true rfl) (xfit (Nat.le_trans (Nat.le_of_ble_eq_true rfl) hdep)) dX8_turn_3 (fun hT z hz => wX8_needMember (xnd F) (Nat.le_refl _) hT (a0 := a0) (a1 := a1) (a2 := a2) ha0 z hz) (fun m1 => ?_)
  refine xj_aload_n F 0 dX8_turn_6 rfl ?_
  refine xj_getR F ha0 lgX8_23 dX8_turn_7 (fun u2 hu2 => ?_)
  refine xj_iload_n F 1 dX8_turn_10 rfl ?_
  refine xj_iload_n F 2 dX8_turn_11 rfl ?_
  refine xj_callVV (b := u2) (As := [.int a1, .int a2]) (d' := 1) F hu2 lmX8_111 rfl rfl (Nat.le_of_ble_eq_true rfl) (xfit (Nat.le_trans (Nat.le_of_ble_eq_true rfl) hdep)) dX8_turn_12 (fun hT z hz => wX6_flip (xnd F) (Nat.le_refl _) hT (a0 := u2) (a1 := a1) (a2 := a2) hu2 z hz) (fun m3 => ?_)
  refine xj_aload_n F 0 dX8_turn_15 rfl ?_
  refine xj_getR F ha0 lgX8_30 dX8_turn_16 (fun u4 hu4 => ?_)
  refine xj_iload_n F 1 dX8_turn_19 rfl ?_
  refine xj_iload_n F 2 dX8_turn_20 rfl ?_
  refine xj_iconst F (-1) dX8_turn_21 (by decide) ?_
  refine xj_callVV (b := u4) (As := [.int a1, .int a2, .int (-1)]) (d' := 1) F hu4 lmX8_108 rfl rfl (Nat.le_of_ble_eq_true rfl) (xfit (Nat.le_trans (Nat.le_of_ble_eq_true rfl) hdep)) dX8_turn_22 (fun hT z hz => wX0_note (xnd F) (Nat.le_refl _) hT (a0 := u4) (a1 := a1) (a2 := a2) (a3 := (-1)) hu4 z hz) (fun m5 => ?_)
  refine xj_aload_n F 0 dX8_turn_25 rfl ?_
  refine xj_callVV (b := a0) (As := []) (d' := 0) F ha0 lmX8_94 rfl rfl (Nat.le_of_ble_eq_true rfl) (xfit (Nat.le_trans (Nat.le_of_ble_eq_true rfl) hdep)) dX8_turn_26 (fun hT z hz => wX8_forgetRuns (xnd F) (Nat.le_refl _) hT (a0 := a0) ha0 z hz) (fun m6 => ?_)
  refine xj_aload_n F 0 dX8_turn_29 rfl ?_
  refine xj_getR F ha0 lgX8_23 dX8_turn_30 (fun u7 hu7 => ?_)
  refine xj_getR F hu7 lgX8_114 dX8_turn_33 (fun u8 hu8 => ?_)
  refine xj_aload_n F 0 dX8_turn_36 rfl ?_
  refine xj_getR F ha0 lgX8_23 dX8_turn_37 (fun u9 hu9 => ?_)
  refine xj_iload_n F 1 dX8_turn_40 rfl ?_
  refine xj_iload_n F 2 dX8_turn_41 rfl ?_
  refine xj_callVI (b := u9) (As := [.int a1, .int a2]) (d' := 0) F hu9 lmX8_117 rfl rfl (Nat.le_of_ble_eq_true rfl) (xfit (Nat.le_trans (Nat.le_of_ble_eq_true rfl) hdep)) dX8_turn_42 (fun hT z hz => wX6_memberAt (xnd F) (Nat.le_refl _) hT (a0 := u9) (a1 := a1) (a2 := a2) hu9 z hz) (fun v11 m10 => ?_)
  refine xj_iald F hu8 dX8_turn_45 (fun v12 => ?_)
  exact xj_ret F rfl dX8_turn_46
set_option maxRecDepth 20000 in
set_option maxHeartbeats 4000000 in
theorem wX8_undo {G : XG} {l : Launch} {d : Nat} (hn : xN G) (hdep : 3 ≤ d) {m0 : XM} (hT : xT G m0) {a0 : Nat} (ha0 : isa G a0 8) : ∀ z, fX8_undo (xln G) a0 m0 = some z → xMet G l mX8_undo d [.ref (xad G a0)] m0 (xrI z) := by
  refine xMet_of (by decide +kernel) hn hT (Nat.le_of_ble_eq_true rfl) (fun X F => ?_)
  refine xj_sub (lv' := [(0, .ref (xad G a0))]) [0] rfl ?_
  unfold fX8_undo
  refine xj_aload_n F 0 dX8_undo_0 rfl ?_
  refine xj_getR F ha0 lgX8_30 dX8_undo_1 (fun u1 hu1 => ?_)
  refine xj_aload_n F 0 dX8_undo_4 rfl ?_
  refine xj_getR F ha0 lgX8_23 dX8_undo_5 (fun u2 hu2 => ?_)
  refine xj_callVI (b := u1) (As := [.ref (xad G u2)]) (d' := 2) F hu1 lmX8_121 rfl rfl (Nat.le_of_ble_eq_true rfl) (xfit (Nat.le_trans (Nat.le_of_ble_eq_true rfl) hdep)) dX8_undo_8 (fun hT z hz => wX0_takeBack (xnd F) (Nat.le_refl _) hT (a0 := u1) (a1 := u2) hu1 hu2 z hz) (fun v4 m3 => ?_)
  refine xj_if_ne (tgt := 16) F dX8_undo_11 (by decide) ?_ ?_
  · refine xj_aload_n F 0 dX8_undo_16 rfl ?_
    refine xj_callVV (b := a0) (As := []) (d' := 0) F ha0 lmX8_94 rfl rfl (Nat.le_of_ble_eq_true rfl) (xfit (Nat.le_trans (Nat.le_of_ble_eq_true rfl) hdep)) dX8_undo_17 (fun hT z hz => wX8_forgetRuns (xnd F) (Nat.le_refl _) hT (a0 := a0) ha0 z hz) (fun m5 => ?_)
    refine xj_aload_n F 0 dX8_undo_20 rfl ?_
    refine xj_getR F ha0 lgX8_30 dX8_undo_21 (fun u6 hu6 => ?_)
    refine xj_get F hu6 lgX8_125 dX8_undo_24 (fun v7 => ?_)
    exact xj_ret F rfl dX8_undo_27
  · refine xj_iconst F (-1) dX8_undo_14 (by decide) ?_
    exact xj_ret F rfl dX8_undo_15
set_option maxRecDepth 20000 in
set_option maxHeartbeats 4000000 in
theorem jX8_needWhat_14 {G : XG} {l : Launch} {d : Nat} {X : XX} (F : xF (xE G d) G X mX8_needWhat) (hdep : 1 ≤ d) : ∀ (p0 : Nat) (m0 : XM), isa G p0 8 → xJ (xE G d) (xQ xrV G X mX8_needWhat) G l X mX8_needWhat 14 [] [.ref (xad G p0)] m0 (fX8_needWhat_14 (xln G) p0 m0) := by
  intro p0 m0 hp0
  unfold fX8_needWhat_14
  refine xj_iconst F 0 dX8_needWhat_14 (by decide) ?_
  refine xj_callVV (b := p0) (As := [.int 0]) (d' := 0) F hp0 lmX8_76 rfl rfl (Nat.le_of_ble_eq_true rfl) (xfit (Nat.le_trans (Nat.le_of_ble_eq_true rfl) hdep)) dX8_needWhat_15 (fun hT z hz => wX8_needArgument (xnd F) (Nat.le_refl _) hT (a0 := p0) (a1 := 0) hp0 z hz) (fun m1 => ?_)
  exact xj_retV F rfl dX8_needWhat_18
set_option maxRecDepth 20000 in
set_option maxHeartbeats 4000000 in
theorem wX8_needWhat {G : XG} {l : Launch} {d : Nat} (hn : xN G) (hdep : 1 ≤ d) {m0 : XM} (hT : xT G m0) {a0 : Nat} {a1 : Int32} {a2 : Int32} (ha0 : isa G a0 8) : ∀ z, fX8_needWhat (xln G) a0 a1 a2 m0 = some z → xMet G l mX8_needWhat d [.ref (xad G a0), .int a1, .int a2] m0 (xrV z) := by
  refine xMet_of (by decide +kernel) hn hT (Nat.le_of_ble_eq_true rfl) (fun X F => ?_)
  refine xj_sub (lv' := [(0, .ref (xad G a0)), (1, .int a1), (2, .int a2)]) [0, 1, 2] rfl ?_
  unfold fX8_needWhat
  refine xj_aload_n F 0 dX8_needWhat_0 rfl ?_
  refine xj_iload_n F 1 dX8_needWhat_1 rfl ?_
  refine xj_if_lt (tgt := 14) F dX8_needWhat_2 (by decide) ?_ ?_
  · refine xj_sub (lv' := []) [] rfl ?_
    exact jX8_needWhat_14 F hdep a0 m0 ha0
  · refine xj_iload_n F 1 dX8_needWhat_5 rfl ?_
    refine xj_iload_n F 2 dX8_needWhat_6 rfl ?_
    refine xj_icmp_gt (tgt := 14) F dX8_needWhat_7 (by decide) ?_ ?_
    · refine xj_sub (lv' := []) [] rfl ?_
      exact jX8_needWhat_14 F hdep a0 m0 ha0
    · refine xj_iconst F 1 dX8_needWhat_10 (by decide) ?_
      refine xj_goto (tgt := 15) F dX8_needWhat_11 (by decide) ?_
      refine xj_callVV (b := a0) (As := [.int 1]) (d' := 0) F ha0 lmX8_76 rfl rfl (Nat.le_of_ble_eq_true rfl) (xfit (Nat.le_trans (Nat.le_of_ble_eq_true rfl) hdep)) dX8_needWhat_15 (fun hT z hz => wX8_needArgument (xnd F) (Nat.le_refl _) hT (a0 := a0) (a1 := 1) ha0 z hz) (fun m1 => ?_)
      exact xj_retV F rfl dX8_needWhat_18
set_option maxRecDepth 20000 in
set_option maxHeartbeats 4000000 in
theorem wX8_told {G : XG} {l : Launch} {d : Nat} (hn : xN G) (hdep : 2 ≤ d) {m0 : XM} (hT : xT G m0) {a0 : Nat} {a1 : Int32} (ha0 : isa G a0 8) : ∀ z, fX8_told (xln G) a0 a1 m0 = some z → xMet G l mX8_told d [.ref (xad G a0), .int a1] m0 (xrI z) := by
  refine xMet_of (by decide +kernel) hn hT (Nat.le_of_ble_eq_true rfl) (fun X F => ?_)
  refine xj_sub (lv' := [(0, .ref (xad G a0)), (1, .int a1)]) [0, 1] rfl ?_
  unfold fX8_told
  refine xj_aload_n F 0 dX8_told_0 rfl ?_
  refine xj_iload_n F 1 dX8_told_1 rfl ?_
  refine xj_iconst F 5 dX8_told_2 (by decide) ?_
  refine xj_callVV (b := a0) (As := [.int a1, .int 5]) (d' := 1) F ha0 lmX8_126 rfl rfl (Nat.le_of_ble_eq_true rfl) (xfit (Nat.le_trans (Nat.le_of_ble_eq_true rfl) hdep)) dX8_told_3 (fun hT z hz => wX8_needWhat (xnd F) (Nat.le_refl _) hT (a0 := a0) (a1 := a1) (a2 := 5) ha0 z hz) (fun m1 => ?_)
  refine xj_iload_n F 1 dX8_told_6 rfl ?_
  refine xj_ite (c := a1 = 0) (fun h2 => ?_) (fun h2 => ?_)
  · refine xj_tabIn F 40 dX8_told_7 (by subst h2; decide) (by subst h2; decide) (by subst h2; rfl) (by decide) ?_
    refine xj_aload_n F 0 dX8_told_40 rfl ?_
    refine xj_getR F ha0 lgX8_23 dX8_told_41 (fun u3 hu3 => ?_)
    refine xj_get F hu3 lgX8_97 dX8_told_44 (fun v4 => ?_)
    exact xj_ret F rfl dX8_told_47
  · skip
    refine xj_ite (c := a1 = 1) (fun h5 => ?_) (fun h5 => ?_)
    · refine xj_tabIn F 48 dX8_told_7 (by subst h5; decide) (by subst h5; decide) (by subst h5; rfl) (by decide) ?_
      refine xj_aload_n F 0 dX8_told_48 rfl ?_
      refine xj_getR F ha0 lgX8_23 dX8_told_49 (fun u6 hu6 => ?_)
      refine xj_get F hu6 lgX8_129 dX8_told_52 (fun v7 => ?_)
      exact xj_ret F rfl dX8_told_55
    · skip
      refine xj_ite (c := a1 = 2) (fun h8 => ?_) (fun h8 => ?_)
      · refine xj_tabIn F 56 dX8_told_7 (by subst h8; decide) (by subst h8; decide) (by subst h8; rfl) (by decide) ?_
        refine xj_aload_n F 0 dX8_told_56 rfl ?_
        refine xj_getR F ha0 lgX8_23 dX8_told_57 (fun u9 hu9 => ?_)
        refine xj_iconst F 0 dX8_told_60 (by decide) ?_
        refine xj_callVI (b := u9) (As := [.int 0]) (d' := 0) F hu9 lmX8_132 rfl rfl (Nat.le_of_ble_eq_true rfl) (xfit (Nat.le_trans (Nat.le_of_ble_eq_true rfl) hdep)) dX8_told_61 (fun hT z hz => wX6_countMembers (xnd F) (Nat.le_refl _) hT (a0 := u9) (a1 := 0) hu9 z hz) (fun v11 m10 => ?_)
        exact xj_ret F rfl dX8_told_64
      · skip
        refine xj_ite (c := a1 = 3) (fun h12 => ?_) (fun h12 => ?_)
        · refine xj_tabIn F 65 dX8_told_7 (by subst h12; decide) (by subst h12; decide) (by subst h12; rfl) (by decide) ?_
          refine xj_aload_n F 0 dX8_told_65 rfl ?_
          refine xj_getR F ha0 lgX8_23 dX8_told_66 (fun u13 hu13 => ?_)
          refine xj_iconst F 1 dX8_told_69 (by decide) ?_
          refine xj_callVI (b := u13) (As := [.int 1]) (d' := 0) F hu13 lmX8_132 rfl rfl (Nat.le_of_ble_eq_true rfl) (xfit (Nat.le_trans (Nat.le_of_ble_eq_true rfl) hdep)) dX8_told_70 (fun hT z hz => wX6_countMembers (xnd F) (Nat.le_refl _) hT (a0 := u13) (a1 := 1) hu13 z hz) (fun v15 m14 => ?_)
          exact xj_ret F rfl dX8_told_73
        · skip
          refine xj_ite (c := a1 = 4) (fun h16 => ?_) (fun h16 => ?_)
          · refine xj_tabIn F 74 dX8_told_7 (by subst h16; decide) (by subst h16; decide) (by subst h16; rfl) (by decide) ?_
            refine xj_aload_n F 0 dX8_told_74 rfl ?_
            refine xj_get F ha0 lgX8_69 dX8_told_75 (fun v17 => ?_)
            exact xj_ret F rfl dX8_told_78
          · skip
            have eh2 := xne 0 h2 rfl
            have eh5 := xne 1 h5 rfl
            have eh8 := xne 2 h8 rfl
            have eh12 := xne 3 h12 rfl
            have eh16 := xne 4 h16 rfl
            refine xj_tabOut F 79 dX8_told_7 (by omega) (by decide) ?_
            refine xj_aload_n F 0 dX8_told_79 rfl ?_
            refine xj_getR F ha0 lgX8_30 dX8_told_80 (fun u18 hu18 => ?_)
            refine xj_get F hu18 lgX8_125 dX8_told_83 (fun v19 => ?_)
            exact xj_ret F rfl dX8_told_86
set_option maxRecDepth 20000 in
set_option maxHeartbeats 4000000 in
theorem wX8_unit {G : XG} {l : Launch} {d : Nat} (hn : xN G) (hdep : 2 ≤ d) {m0 : XM} (hT : xT G m0) {a0 : Nat} {a1 : Int32} {a2 : Int32} (ha0 : isa G a0 8) : ∀ z, fX8_unit (xln G) a0 a1 a2 m0 = some z → xMet G l mX8_unit d [.ref (xad G a0), .int a1, .int a2] m0 (xrI z) := by
  refine xMet_of (by decide +kernel) hn hT (Nat.le_of_ble_eq_true rfl) (fun X F => ?_)
  refine xj_sub (lv' := [(0, .ref (xad G a0)), (1, .int a1), (2, .int a2)]) [0, 1, 2] rfl ?_
  unfold fX8_unit
  refine xj_aload_n F 0 dX8_unit_0 rfl ?_
  refine xj_iload_n F 1 dX8_unit_1 rfl ?_
  refine xj_callVV (b := a0) (As := [.int a1]) (d' := 1) F ha0 lmX8_136 rfl rfl (Nat.le_of_ble_eq_true rfl) (xfit (Nat.le_trans (Nat.le_of_ble_eq_true rfl) hdep)) dX8_unit_2 (fun hT z hz => wX8_needUnit (xnd F) (Nat.le_refl _) hT (a0 := a0) (a1 := a1) ha0 z hz) (fun m1 => ?_)
  refine xj_aload_n F 0 dX8_unit_5 rfl ?_
  refine xj_iload_n F 2 dX8_unit_6 rfl ?_
  refine xj_iconst F 4 dX8_unit_7 (by decide) ?_
  refine xj_callVV (b := a0) (As := [.int a2, .int 4]) (d' := 1) F ha0 lmX8_126 rfl rfl (Nat.le_of_ble_eq_true rfl) (xfit (Nat.le_trans (Nat.le_of_ble_eq_true rfl) hdep)) dX8_unit_8 (fun hT z hz => wX8_needWhat (xnd F) (Nat.le_refl _) hT (a0 := a0) (a1 := a2) (a2 := 4) ha0 z hz) (fun m2 => ?_)
  refine xj_iload_n F 2 dX8_unit_11 rfl ?_
  refine xj_ite (c := a2 = 0) (fun h3 => ?_) (fun h3 => ?_)
  · refine xj_tabIn F 44 dX8_unit_12 (by subst h3; decide) (by subst h3; decide) (by subst h3; rfl) (by decide) ?_
    refine xj_aload_n F 0 dX8_unit_44 rfl ?_
    refine xj_getR F ha0 lgX8_23 dX8_unit_45 (fun u4 hu4 => ?_)
    refine xj_getR F hu4 lgX8_139 dX8_unit_48 (fun u5 hu5 => ?_)
    refine xj_iload_n F 1 dX8_unit_51 rfl ?_
    refine xj_iald F hu5 dX8_unit_52 (fun v6 => ?_)
    exact xj_ret F rfl dX8_unit_53
  · skip
    refine xj_ite (c := a2 = 1) (fun h7 => ?_) (fun h7 => ?_)
    · refine xj_tabIn F 54 dX8_unit_12 (by subst h7; decide) (by subst h7; decide) (by subst h7; rfl) (by decide) ?_
      refine xj_aload_n F 0 dX8_unit_54 rfl ?_
      refine xj_getR F ha0 lgX8_23 dX8_unit_55 (fun u8 hu8 => ?_)
      refine xj_getR F hu8 lgX8_142 dX8_unit_58 (fun u9 hu9 => ?_)
      refine xj_iload_n F 1 dX8_unit_61 rfl ?_
      refine xj_iald F hu9 dX8_unit_62 (fun v10 => ?_)
      exact xj_ret F rfl dX8_unit_63
    · skip
      refine xj_ite (c := a2 = 2) (fun h11 => ?_) (fun h11 => ?_)
      · refine xj_tabIn F 64 dX8_unit_12 (by subst h11; decide) (by subst h11; decide) (by subst h11; rfl) (by decide) ?_
        refine xj_aload_n F 0 dX8_unit_64 rfl ?_
        refine xj_getR F ha0 lgX8_23 dX8_unit_65 (fun u12 hu12 => ?_)
        refine xj_getR F hu12 lgX8_145 dX8_unit_68 (fun u13 hu13 => ?_)
        refine xj_iload_n F 1 dX8_unit_71 rfl ?_
        refine xj_iald F hu13 dX8_unit_72 (fun v14 => ?_)
        exact xj_ret F rfl dX8_unit_73
      · skip
        refine xj_ite (c := a2 = 3) (fun h15 => ?_) (fun h15 => ?_)
        · refine xj_tabIn F 74 dX8_unit_12 (by subst h15; decide) (by subst h15; decide) (by subst h15; rfl) (by decide) ?_
          refine xj_aload_n F 0 dX8_unit_74 rfl ?_
          refine xj_getR F ha0 lgX8_23 dX8_unit_75 (fun u16 hu16 => ?_)
          refine xj_iload_n F 1 dX8_unit_78 rfl ?_
          refine xj_iconst F 1 dX8_unit_79 (by decide) ?_
          refine xj_callVI (b := u16) (As := [.int a1, .int 1]) (d' := 0) F hu16 lmX8_148 rfl rfl (Nat.le_of_ble_eq_true rfl) (xfit (Nat.le_trans (Nat.le_of_ble_eq_true rfl) hdep)) dX8_unit_80 (fun hT z hz => wX6_countKind (xnd F) (Nat.le_refl _) hT (a0 := u16) (a1 := a1) (a2 := 1) hu16 z hz) (fun v18 m17 => ?_)
          exact xj_ret F rfl dX8_unit_83
        · skip
          have eh3 := xne 0 h3 rfl
          have eh7 := xne 1 h7 rfl
          have eh11 := xne 2 h11 rfl
          have eh15 := xne 3 h15 rfl
          refine xj_tabOut F 84 dX8_unit_12 (by omega) (by decide) ?_
          refine xj_aload_n F 0 dX8_unit_84 rfl ?_
          refine xj_getR F ha0 lgX8_23 dX8_unit_85 (fun u19 hu19 => ?_)
          refine xj_iload_n F 1 dX8_unit_88 rfl ?_
          refine xj_iconst F 4 dX8_unit_89 (by decide) ?_
          refine xj_callVI (b := u19) (As := [.int a1, .int 4]) (d' := 0) F hu19 lmX8_148 rfl rfl (Nat.le_of_ble_eq_true rfl) (xfit (Nat.le_trans (Nat.le_of_ble_eq_true rfl) hdep)) dX8_unit_90 (fun hT z hz => wX6_countKind (xnd F) (Nat.le_refl _) hT (a0 := u19) (a1 := a1) (a2 := 4) hu19 z hz) (fun v21 m20 => ?_)
          exact xj_ret F rfl dX8_unit_93
set_option maxRecDepth 20000 in
set_option maxHeartbeats 4000000 in
theorem wX8_member {G : XG} {l : Launch} {d : Nat} (hn : xN G) (hdep : 3 ≤ d) {m0 : XM} (hT : xT G m0) {a0 : Nat} {a1 : Int32} {a2 : Int32} {a3 : Int32} (ha0 : isa G a0 8) : ∀ z, fX8_member (xln G) a0 a1 a2 a3 m0 = some z → xMet G l mX8_member d [.ref (xad G a0), .int a1, .int a2, .int a3] m0 (xrI z) := by
  refine xMet_of (by decide +kernel) hn hT (Nat.le_of_ble_eq_true rfl) (fun X F => ?_)
  refine xj_sub (lv' := [(0, .ref (xad G a0)), (1, .int a1), (2, .int a2), (3, .int a3)]) [0, 1, 2, 3] rfl ?_
  unfold fX8_member
  refine xj_aload_n F 0 dX8_member_0 rfl ?_
  refine xj_iload_n F 1 dX8_member_1 rfl ?_
  refine xj_iload_n F 2 dX8_member_2 rfl ?_
  refine xj_callVV (b := a0) (As := [.int a1, .int a2]) (d' := 2) F ha0 lmX8_100 rfl rfl (Nat.le_of_ble_eq_true rfl) (xfit (Nat.le_trans (Nat.le_of_ble_eq_true rfl) hdep)) dX8_member_3 (fun hT z hz => wX8_needMember (xnd F) (Nat.le_refl _) hT (a0 := a0) (a1 := a1) (a2 := a2) ha0 z hz) (fun m1 => ?_)
  refine xj_aload_n F 0 dX8_member_6 rfl ?_
  refine xj_iload_n F 3 dX8_member_7 rfl ?_
  refine xj_iconst F 4 dX8_member_8 (by decide) ?_
  refine xj_callVV (b := a0) (As := [.int a3, .int 4]) (d' := 1) F ha0 lmX8_126 rfl rfl (Nat.le_of_ble_eq_true rfl) (xfit (Nat.le_trans (Nat.le_of_ble_eq_true rfl) hdep)) dX8_member_9 (fun hT z hz => wX8_needWhat (xnd F) (Nat.le_refl _) hT (a0 := a0) (a1 := a3) (a2 := 4) ha0 z hz) (fun m2 => ?_)
  refine xj_aload_n F 0 dX8_member_12 rfl ?_
  refine xj_getR F ha0 lgX8_23 dX8_member_13 (fun u3 hu3 => ?_)
  refine xj_iload_n F 1 dX8_member_16 rfl ?_
  refine xj_iload_n F 2 dX8_member_17 rfl ?_
  refine xj_callVI (b := u3) (As := [.int a1, .int a2]) (d' := 0) F hu3 lmX8_117 rfl rfl (Nat.le_of_ble_eq_true rfl) (xfit (Nat.le_trans (Nat.le_of_ble_eq_true rfl) hdep)) dX8_member_18 (fun hT z hz => wX6_memberAt (xnd F) (Nat.le_refl _) hT (a0 := u3) (a1 := a1) (a2 := a2) hu3 z hz) (fun v5 m4 => ?_)
  refine xj_istore (lv' := [(4, .int v5), (0, .ref (xad G a0)), (1, .int a1), (2, .int a2), (3, .int a3)]) F dX8_member_21 (by decide) rfl ?_
  refine xj_iload_n F 4 dX8_member_23 rfl ?_
  refine xj_ite (c := a3 = 0) (fun h6 => ?_) (fun h6 => ?_)
  · refine xj_tabIn F 56 dX8_member_24 (by subst h6; decide) (by subst h6; decide) (by subst h6; rfl) (by decide) ?_
    refine xj_aload_n F 1 dX8_member_56 rfl ?_
    refine xj_getR F ha0 lgX8_23 dX8_member_57 (fun u7 hu7 => ?_)
    refine xj_getR F hu7 lgX8_151 dX8_member_60 (fun u8 hu8 => ?_)
    refine xj_iload F 0 dX8_member_63 rfl ?_
    refine xj_iald F hu8 dX8_member_65 (fun v9 => ?_)
    exact xj_ret F rfl dX8_member_66
  · skip
    refine xj_ite (c := a3 = 1) (fun h10 => ?_) (fun h10 => ?_)
    · refine xj_tabIn F 67 dX8_member_24 (by subst h10; decide) (by subst h10; decide) (by subst h10; rfl) (by decide) ?_
      refine xj_aload_n F 1 dX8_member_67 rfl ?_
      refine xj_getR F ha0 lgX8_23 dX8_member_68 (fun u11 hu11 => ?_)
      refine xj_getR F hu11 lgX8_114 dX8_member_71 (fun u12 hu12 => ?_)
      refine xj_iload F 0 dX8_member_74 rfl ?_
      refine xj_iald F hu12 dX8_member_76 (fun v13 => ?_)
      exact xj_ret F rfl dX8_member_77
    · skip
      refine xj_ite (c := a3 = 2) (fun h14 => ?_) (fun h14 => ?_)
      · refine xj_tabIn F 78 dX8_member_24 (by subst h14; decide) (by subst h14; decide) (by subst h14; rfl) (by decide) ?_
        refine xj_aload_n F 1 dX8_member_78 rfl ?_
        refine xj_getR F ha0 lgX8_23 dX8_member_79 (fun u15 hu15 => ?_)
        refine xj_iload F 0 dX8_member_82 rfl ?_
        refine xj_callVI (b := u15) (As := [.int v5]) (d' := 0) F hu15 lmX8_154 rfl rfl (Nat.le_of_ble_eq_true rfl) (xfit (Nat.le_trans (Nat.le_of_ble_eq_true rfl) hdep)) dX8_member_84 (fun hT z hz => wX6_nameOf (xnd F) (Nat.le_refl _) hT (a0 := u15) (a1 := v5) hu15 z hz) (fun v17 m16 => ?_)
        exact xj_ret F rfl dX8_member_87
      · skip
        refine xj_ite (c := a3 = 3) (fun h18 => ?_) (fun h18 => ?_)
        · refine xj_tabIn F 88 dX8_member_24 (by subst h18; decide) (by subst h18; decide) (by subst h18; rfl) (by decide) ?_
          refine xj_aload_n F 1 dX8_member_88 rfl ?_
          refine xj_getR F ha0 lgX8_23 dX8_member_89 (fun u19 hu19 => ?_)
          refine xj_iload F 0 dX8_member_92 rfl ?_
          refine xj_callVI (b := u19) (As := [.int v5]) (d' := 1) F hu19 lmX8_158 rfl rfl (Nat.le_of_ble_eq_true rfl) (xfit (Nat.le_trans (Nat.le_of_ble_eq_true rfl) hdep)) dX8_member_94 (fun hT z hz => wX6_termsOf (xnd F) (Nat.le_refl _) hT (a0 := u19) (a1 := v5) hu19 z hz) (fun v21 m20 => ?_)
          exact xj_ret F rfl dX8_member_97
        · skip
          have eh6 := xne 0 h6 rfl
          have eh10 := xne 1 h10 rfl
          have eh14 := xne 2 h14 rfl
          have eh18 := xne 3 h18 rfl
          refine xj_tabOut F 98 dX8_member_24 (by omega) (by decide) ?_
          refine xj_aload_n F 1 dX8_member_98 rfl ?_
          refine xj_getR F ha0 lgX8_23 dX8_member_99 (fun u22 hu22 => ?_)
          refine xj_iload F 0 dX8_member_102 rfl ?_
          refine xj_callVI (b := u22) (As := [.int v5]) (d' := 0) F hu22 lmX8_161 rfl rfl (Nat.le_of_ble_eq_true rfl) (xfit (Nat.le_trans (Nat.le_of_ble_eq_true rfl) hdep)) dX8_member_104 (fun hT z hz => wX6_detailOf (xnd F) (Nat.le_refl _) hT (a0 := u22) (a1 := v5) hu22 z hz) (fun v24 m23 => ?_)
          exact xj_ret F rfl dX8_member_107
set_option maxRecDepth 20000 in
set_option maxHeartbeats 4000000 in
theorem wX8_runPlain {G : XG} {l : Launch} {d : Nat} (hn : xN G) (hdep : 204 ≤ d) {m0 : XM} (hT : xT G m0) {a0 : Nat} (ha0 : isa G a0 8) : ∀ z, fX8_runPlain (xln G) a0 m0 = some z → xMet G l mX8_runPlain d [.ref (xad G a0)] m0 (xrV z) := by
  refine xMet_of (by decide +kernel) hn hT (Nat.le_of_ble_eq_true rfl) (fun X F => ?_)
  refine xj_sub (lv' := [(0, .ref (xad G a0))]) [0] rfl ?_
  unfold fX8_runPlain
  refine xj_aload_n F 0 dX8_runPlain_0 rfl ?_
  refine xj_get F ha0 lgX8_283 dX8_runPlain_1 (fun v1 => ?_)
  refine xj_if_ne (tgt := 23) F dX8_runPlain_4 (by decide) ?_ ?_
  · exact xj_retV F rfl dX8_runPlain_23
  · refine xj_aload_n F 0 dX8_runPlain_7 rfl ?_
    refine xj_getR F ha0 lgX8_39 dX8_runPlain_8 (fun u2 hu2 => ?_)
    refine xj_aload_n F 0 dX8_runPlain_11 rfl ?_
    refine xj_getR F ha0 lgX8_23 dX8_runPlain_12 (fun u3 hu3 => ?_)
    refine xj_callVV (b := u2) (As := [.ref (xad G u3)]) (d' := 203) F hu2 lmX8_289 rfl rfl (Nat.le_of_ble_eq_true rfl) (xfit (Nat.le_trans (Nat.le_of_ble_eq_true rfl) hdep)) dX8_runPlain_15 (fun hT z hz => wX2_runPlainly (xnd F) (Nat.le_refl _) hT (a0 := u2) (a1 := u3) hu2 hu3 z hz) (fun m4 => ?_)
    refine xj_aload_n F 0 dX8_runPlain_18 rfl ?_
    refine xj_iconst F 1 dX8_runPlain_19 (by decide) ?_
    refine xj_putZ F ha0 lpX8_283 rfl rfl dX8_runPlain_20 (fun m5 => ?_)
    exact xj_retV F rfl dX8_runPlain_23
set_option maxRecDepth 20000 in
set_option maxHeartbeats 4000000 in
theorem wX8_lazy {G : XG} {l : Launch} {d : Nat} (hn : xN G) (hdep : 205 ≤ d) {m0 : XM} (hT : xT G m0) {a0 : Nat} {a1 : Int32} (ha0 : isa G a0 8) : ∀ z, fX8_lazy (xln G) a0 a1 m0 = some z → xMet G l mX8_lazy d [.ref (xad G a0), .int a1] m0 (xrI z) := by
  refine xMet_of (by decide +kernel) hn hT (Nat.le_of_ble_eq_true rfl) (fun X F => ?_)
  refine xj_sub (lv' := [(0, .ref (xad G a0)), (1, .int a1)]) [0, 1] rfl ?_
  unfold fX8_lazy
  refine xj_aload_n F 0 dX8_lazy_0 rfl ?_
  refine xj_iload_n F 1 dX8_lazy_1 rfl ?_
  refine xj_bipush F 7 dX8_lazy_2 (by decide) ?_
  refine xj_callVV (b := a0) (As := [.int a1, .int 7]) (d' := 1) F ha0 lmX8_126 rfl rfl (Nat.le_of_ble_eq_true rfl) (xfit (Nat.le_trans (Nat.le_of_ble_eq_true rfl) hdep)) dX8_lazy_4 (fun hT z hz => wX8_needWhat (xnd F) (Nat.le_refl _) hT (a0 := a0) (a1 := a1) (a2 := 7) ha0 z hz) (fun m1 => ?_)
  refine xj_aload_n F 0 dX8_lazy_7 rfl ?_
  refine xj_callVV (b := a0) (As := []) (d' := 204) F ha0 lmX8_164 rfl rfl (Nat.le_of_ble_eq_true rfl) (xfit (Nat.le_trans (Nat.le_of_ble_eq_true rfl) hdep)) dX8_lazy_8 (fun hT z hz => wX8_runPlain (xnd F) (Nat.le_refl _) hT (a0 := a0) ha0 z hz) (fun m2 => ?_)
  refine xj_aload_n F 0 dX8_lazy_11 rfl ?_
  refine xj_getR F ha0 lgX8_39 dX8_lazy_12 (fun u3 hu3 => ?_)
  refine xj_iload_n F 1 dX8_lazy_15 rfl ?_
  refine xj_callVI (b := u3) (As := [.int a1]) (d' := 1) F hu3 lmX8_167 rfl rfl (Nat.le_of_ble_eq_true rfl) (xfit (Nat.le_trans (Nat.le_of_ble_eq_true rfl) hdep)) dX8_lazy_16 (fun hT z hz => wX2_tally (xnd F) (Nat.le_refl _) hT (a0 := u3) (a1 := a1) hu3 z hz) (fun v5 m4 => ?_)
  exact xj_ret F rfl dX8_lazy_19
set_option maxRecDepth 20000 in
set_option maxHeartbeats 4000000 in
theorem jX8_takesOrder_21 {G : XG} {l : Launch} {d : Nat} {X : XX} (F : xF (xE G d) G X mX8_takesOrder) (hdep : 0 ≤ d) : ∀ (n : Nat) (q0 : Nat) (x2 : Int32) (x3 : Int32) (x4 : Int32) (m0 : XM), isa G q0 8 → xJ (xE G d) (xQ xrI G X mX8_takesOrder) G l X mX8_takesOrder 21 [(0, .ref (xad G q0)), (2, .int x2), (3, .int x3), (4, .int x4)] [] m0 (fX8_takesOrder_21 (xln G) n q0 x2 x3 x4 m0) := by
  intro n
  induction n with
  | zero => intro q0 x2 x3 x4 m0 hq0; exact xj_none
  | succ n hr21 =>
    intro q0 x2 x3 x4 m0 hq0
    unfold fX8_takesOrder_21
    generalize hrg21 : (fun q0 x2 x3 x4 m0 => fX8_takesOrder_21 (xln G) n q0 x2 x3 x4 m0) = r21
    have hr21 : ∀ (q0 : Nat) (x2 : Int32) (x3 : Int32) (x4 : Int32) (m0 : XM), isa G q0 8 → xJ (xE G d) (xQ xrI G X mX8_takesOrder) G l X mX8_takesOrder 21 [(0, .ref (xad G q0)), (2, .int x2), (3, .int x3), (4, .int x4)] [] m0 (r21 q0 x2 x3 x4 m0) := by
      subst hrg21
      exact hr21
    clear hrg21
    refine xj_eq (xv_eq _ _) ?_
    refine xj_iload F 3 dX8_takesOrder_21 rfl ?_
    refine xj_if_lt (tgt := 82) F dX8_takesOrder_23 (by decide) ?_ ?_
    · refine xj_iload_n F 1 dX8_takesOrder_82 rfl ?_
      refine xj_if_ne (tgt := 90) F dX8_takesOrder_83 (by decide) ?_ ?_
      · refine xj_iconst F 0 dX8_takesOrder_90 (by decide) ?_
        exact xj_retZ F rfl rfl dX8_takesOrder_91
      · refine xj_iconst F 1 dX8_takesOrder_86 (by decide) ?_
        refine xj_goto (tgt := 91) F dX8_takesOrder_87 (by decide) ?_
        exact xj_retZ F rfl rfl dX8_takesOrder_91
    · refine xj_iload_n F 1 dX8_takesOrder_26 rfl ?_
      refine xj_bipush F 10 dX8_takesOrder_27 (by decide) ?_
      refine xj_irem F dX8_takesOrder_29 (fun v1 => ?_)
      refine xj_istore (lv' := [(5, .int v1), (0, .ref (xad G q0)), (2, .int x2), (3, .int x3), (4, .int x4)]) F dX8_takesOrder_30 (by decide) rfl ?_
      refine xj_iload_n F 2 dX8_takesOrder_32 rfl ?_
      refine xj_bipush F 10 dX8_takesOrder_33 (by decide) ?_
      refine xj_idiv F dX8_takesOrder_35 (fun v2 => ?_)
      refine xj_istore_n (lv' := [(2, .int v2), (5, .int v1), (0, .ref (xad G q0)), (3, .int x3), (4, .int x4)]) F dX8_takesOrder_36 (by decide) rfl ?_
      refine xj_iload F 1 dX8_takesOrder_37 rfl ?_
      refine xj_aload_n F 2 dX8_takesOrder_39 rfl ?_
      refine xj_getR F hq0 lgX8_23 dX8_takesOrder_40 (fun u3 hu3 => ?_)
      refine xj_get F hu3 lgX8_97 dX8_takesOrder_43 (fun v4 => ?_)
      refine xj_icmp_ge (tgt := 58) F dX8_takesOrder_46 (by decide) ?_ ?_
      · refine xj_iconst F 0 dX8_takesOrder_58 (by decide) ?_
        exact xj_retZ F rfl rfl dX8_takesOrder_59
      · refine xj_iload_n F 3 dX8_takesOrder_49 rfl ?_
        refine xj_iload F 1 dX8_takesOrder_50 rfl ?_
        refine xj_ishr F dX8_takesOrder_52 (fun v5 => ?_)
        refine xj_iconst F 1 dX8_takesOrder_53 (by decide) ?_
        refine xj_iand F dX8_takesOrder_54 (fun v6 => ?_)
        refine xj_if_eq (tgt := 60) F dX8_takesOrder_55 (by decide) ?_ ?_
        · refine xj_iload_n F 3 dX8_takesOrder_60 rfl ?_
          refine xj_iconst F 1 dX8_takesOrder_61 (by decide) ?_
          refine xj_iload F 1 dX8_takesOrder_62 rfl ?_
          refine xj_ishl F dX8_takesOrder_64 (fun v7 => ?_)
          refine xj_ior F dX8_takesOrder_65 (fun v8 => ?_)
          refine xj_istore_n (lv' := [(3, .int v8), (2, .int v2), (5, .int v1), (0, .ref (xad G q0)), (4, .int x4)]) F dX8_takesOrder_66 (by decide) rfl ?_
          refine xj_aload_n F 3 dX8_takesOrder_67 rfl ?_
          refine xj_getR F hq0 lgX8_46 dX8_takesOrder_68 (fun u9 hu9 => ?_)
          refine xj_iload F 4 dX8_takesOrder_71 rfl ?_
          refine xj_iload F 2 dX8_takesOrder_73 rfl ?_
          refine xj_iast F hu9 dX8_takesOrder_75 (fun m10 => ?_)
          refine xj_iinc F 4 (-1) (fun v11 => [(4, .int v11), (3, .int v8), (2, .int v2), (5, .int v1), (0, .ref (xad G q0))]) dX8_takesOrder_76 rfl (by decide) (by decide) (fun _ => rfl) (fun v11 => ?_)
          refine xj_goto (tgt := 21) F dX8_takesOrder_79 (by decide) ?_
          refine xj_sub (lv' := [(0, .ref (xad G q0)), (2, .int v2), (3, .int v8), (4, .int v11)]) [4, 2, 1, 0] rfl ?_
          exact hr21 q0 v2 v8 v11 m10 hq0
        · refine xj_iconst F 0 dX8_takesOrder_58 (by decide) ?_
          exact xj_retZ F rfl rfl dX8_takesOrder_59
set_option maxRecDepth 20000 in
set_option maxHeartbeats 4000000 in
theorem wX8_takesOrder {G : XG} {l : Launch} {d : Nat} (hn : xN G) (hdep : 0 ≤ d) {m0 : XM} (hT : xT G m0) {a0 : Nat} {a1 : Int32} (ha0 : isa G a0 8) : ∀ z, fX8_takesOrder (xln G) a0 a1 m0 = some z → xMet G l mX8_takesOrder d [.ref (xad G a0), .int a1] m0 (xrI z) := by
  refine xMet_of (by decide +kernel) hn hT (Nat.le_of_ble_eq_true rfl) (fun X F => ?_)
  refine xj_sub (lv' := [(0, .ref (xad G a0)), (1, .int a1)]) [0, 1] rfl ?_
  unfold fX8_takesOrder
  refine xj_iload_n F 1 dX8_takesOrder_0 rfl ?_
  refine xj_if_ge (tgt := 6) F dX8_takesOrder_1 (by decide) ?_ ?_
  · refine xj_iload_n F 1 dX8_takesOrder_6 rfl ?_
    refine xj_istore_n (lv' := [(2, .int a1), (0, .ref (xad G a0)), (1, .int a1)]) F dX8_takesOrder_7 (by decide) rfl ?_
    refine xj_iconst F 0 dX8_takesOrder_8 (by decide) ?_
    refine xj_istore_n (lv' := [(3, .int 0), (2, .int a1), (0, .ref (xad G a0)), (1, .int a1)]) F dX8_takesOrder_9 (by decide) rfl ?_
    refine xj_aload_n F 2 dX8_takesOrder_10 rfl ?_
    refine xj_getR F ha0 lgX8_23 dX8_takesOrder_11 (fun u1 hu1 => ?_)
    refine xj_get F hu1 lgX8_97 dX8_takesOrder_14 (fun v2 => ?_)
    refine xj_iconst F 1 dX8_takesOrder_17 (by decide) ?_
    refine xj_isub F dX8_takesOrder_18 (fun v3 => ?_)
    refine xj_istore (lv' := [(4, .int v3), (3, .int 0), (2, .int a1), (0, .ref (xad G a0)), (1, .int a1)]) F dX8_takesOrder_19 (by decide) rfl ?_
    refine xj_sub (lv' := [(0, .ref (xad G a0)), (2, .int a1), (3, .int 0), (4, .int v3)]) [3, 2, 1, 0] rfl ?_
    exact jX8_takesOrder_21 F hdep XF a0 a1 0 v3 m0 ha0
  · refine xj_iconst F 0 dX8_takesOrder_4 (by decide) ?_
    exact xj_retZ F rfl rfl dX8_takesOrder_5
set_option maxRecDepth 20000 in
set_option maxHeartbeats 4000000 in
theorem wX8_eager {G : XG} {l : Launch} {d : Nat} (hn : xN G) (hdep : 204 ≤ d) {m0 : XM} (hT : xT G m0) {a0 : Nat} {a1 : Int32} {a2 : Int32} (ha0 : isa G a0 8) : ∀ z, fX8_eager (xln G) a0 a1 a2 m0 = some z → xMet G l mX8_eager d [.ref (xad G a0), .int a1, .int a2] m0 (xrI z) := by
  refine xMet_of (by decide +kernel) hn hT (Nat.le_of_ble_eq_true rfl) (fun X F => ?_)
  refine xj_sub (lv' := [(0, .ref (xad G a0)), (1, .int a1), (2, .int a2)]) [0, 1, 2] rfl ?_
  unfold fX8_eager
  refine xj_aload_n F 0 dX8_eager_0 rfl ?_
  refine xj_aload_n F 0 dX8_eager_1 rfl ?_
  refine xj_iload_n F 1 dX8_eager_2 rfl ?_
  refine xj_callVI (b := a0) (As := [.int a1]) (d' := 0) F ha0 lmX8_170 rfl rfl (Nat.le_of_ble_eq_true rfl) (xfit (Nat.le_trans (Nat.le_of_ble_eq_true rfl) hdep)) dX8_eager_3 (fun hT z hz => wX8_takesOrder (xnd F) (Nat.le_refl _) hT (a0 := a0) (a1 := a1) ha0 z hz) (fun v2 m1 => ?_)
  refine xj_callVV (b := a0) (As := [.int v2]) (d' := 0) F ha0 lmX8_76 rfl rfl (Nat.le_of_ble_eq_true rfl) (xfit (Nat.le_trans (Nat.le_of_ble_eq_true rfl) hdep)) dX8_eager_6 (fun hT z hz => wX8_needArgument (xnd F) (Nat.le_refl _) hT (a0 := a0) (a1 := v2) ha0 z hz) (fun m3 => ?_)
  refine xj_aload_n F 0 dX8_eager_9 rfl ?_
  refine xj_iload_n F 2 dX8_eager_10 rfl ?_
  refine xj_bipush F 7 dX8_eager_11 (by decide) ?_
  refine xj_callVV (b := a0) (As := [.int a2, .int 7]) (d' := 1) F ha0 lmX8_126 rfl rfl (Nat.le_of_ble_eq_true rfl) (xfit (Nat.le_trans (Nat.le_of_ble_eq_true rfl) hdep)) dX8_eager_13 (fun hT z hz => wX8_needWhat (xnd F) (Nat.le_refl _) hT (a0 := a0) (a1 := a2) (a2 := 7) ha0 z hz) (fun m4 => ?_)
  refine xj_aload_n F 0 dX8_eager_16 rfl ?_
  refine xj_getR F ha0 lgX8_43 dX8_eager_17 (fun u5 hu5 => ?_)
  refine xj_aload_n F 0 dX8_eager_20 rfl ?_
  refine xj_getR F ha0 lgX8_23 dX8_eager_21 (fun u6 hu6 => ?_)
  refine xj_aload_n F 0 dX8_eager_24 rfl ?_
  refine xj_getR F ha0 lgX8_46 dX8_eager_25 (fun u7 hu7 => ?_)
  refine xj_callVV (b := u5) (As := [.ref (xad G u6), .ref (xad G u7)]) (d' := 203) F hu5 lmX8_174 rfl rfl (Nat.le_of_ble_eq_true rfl) (xfit (Nat.le_trans (Nat.le_of_ble_eq_true rfl) hdep)) dX8_eager_28 (fun hT z hz => wX2_runAhead (xnd F) (Nat.le_refl _) hT (a0 := u5) (a1 := u6) (a2 := u7) hu5 hu6 hu7 z hz) (fun m8 => ?_)
  refine xj_aload_n F 0 dX8_eager_31 rfl ?_
  refine xj_getR F ha0 lgX8_43 dX8_eager_32 (fun u9 hu9 => ?_)
  refine xj_iload_n F 2 dX8_eager_35 rfl ?_
  refine xj_callVI (b := u9) (As := [.int a2]) (d' := 1) F hu9 lmX8_167 rfl rfl (Nat.le_of_ble_eq_true rfl) (xfit (Nat.le_trans (Nat.le_of_ble_eq_true rfl) hdep)) dX8_eager_36 (fun hT z hz => wX2_tally (xnd F) (Nat.le_refl _) hT (a0 := u9) (a1 := a2) hu9 z hz) (fun v11 m10 => ?_)
  exact xj_ret F rfl dX8_eager_39
set_option maxRecDepth 20000 in
set_option maxHeartbeats 4000000 in
theorem jX8_value_39 {G : XG} {l : Launch} {d : Nat} {X : XX} (F : xF (xE G d) G X mX8_value) (hdep : 205 ≤ d) : ∀ (q0 : Nat) (x3 : Int32) (p0 : Nat) (s1 : Int32) (m0 : XM), isa G q0 8 → isa G p0 8 → xJ (xE G d) (xQ xrI G X mX8_value) G l X mX8_value 39 [(0, .ref (xad G q0)), (3, .int x3)] [.int s1, .ref (xad G p0)] m0 (fX8_value_39 (xln G) q0 x3 p0 s1 m0) := by
  intro q0 x3 p0 s1 m0 hq0 hp0
  unfold fX8_value_39
  refine xj_callVV (b := p0) (As := [.int s1]) (d' := 0) F hp0 lmX8_181 rfl rfl (Nat.le_of_ble_eq_true rfl) (xfit (Nat.le_trans (Nat.le_of_ble_eq_true rfl) hdep)) dX8_value_39 (fun hT z hz => wX8_needElement (xnd F) (Nat.le_refl _) hT (a0 := p0) (a1 := s1) hp0 z hz) (fun m1 => ?_)
  refine xj_aload_n F 0 dX8_value_42 rfl ?_
  refine xj_callVV (b := q0) (As := []) (d' := 204) F hq0 lmX8_164 rfl rfl (Nat.le_of_ble_eq_true rfl) (xfit (Nat.le_trans (Nat.le_of_ble_eq_true rfl) hdep)) dX8_value_43 (fun hT z hz => wX8_runPlain (xnd F) (Nat.le_refl _) hT (a0 := q0) hq0 z hz) (fun m2 => ?_)
  refine xj_aload_n F 0 dX8_value_46 rfl ?_
  refine xj_getR F hq0 lgX8_39 dX8_value_47 (fun u3 hu3 => ?_)
  refine xj_getR F hu3 lgX8_184 dX8_value_50 (fun u4 hu4 => ?_)
  refine xj_iload_n F 1 dX8_value_53 rfl ?_
  refine xj_iald F hu4 dX8_value_54 (fun v5 => ?_)
  exact xj_ret F rfl dX8_value_55
set_option maxRecDepth 20000 in
set_option maxHeartbeats 4000000 in
theorem jX8_value_38 {G : XG} {l : Launch} {d : Nat} {X : XX} (F : xF (xE G d) G X mX8_value) (hdep : 205 ≤ d) : ∀ (q0 : Nat) (x3 : Int32) (p0 : Nat) (m0 : XM), isa G q0 8 → isa G p0 8 → xJ (xE G d) (xQ xrI G X mX8_value) G l X mX8_value 38 [(0, .ref (xad G q0)), (3, .int x3)] [.ref (xad G p0)] m0 (fX8_value_38 (xln G) q0 x3 p0 m0) := by
  intro q0 x3 p0 m0 hq0 hp0
  unfold fX8_value_38
  refine xj_iconst F 0 dX8_value_38 (by decide) ?_
  exact jX8_value_39 F hdep q0 x3 p0 0 m0 hq0 hp0
set_option maxRecDepth 20000 in
set_option maxHeartbeats 4000000 in
theorem wX8_value {G : XG} {l : Launch} {d : Nat} (hn : xN G) (hdep : 205 ≤ d) {m0 : XM} (hT : xT G m0) {a0 : Nat} {a1 : Int32} {a2 : Int32} (ha0 : isa G a0 8) : ∀ z, fX8_value (xln G) a0 a1 a2 m0 = some z → xMet G l mX8_value d [.ref (xad G a0), .int a1, .int a2] m0 (xrI z) := by
  refine xMet_of (by decide +kernel) hn hT (Nat.le_of_ble_eq_true rfl) (fun X F => ?_)
  refine xj_sub (lv' := [(0, .ref (xad G a0)), (1, .int a1), (2, .int a2)]) [0, 1, 2] rfl ?_
  unfold fX8_value
  refine xj_aload_n F 0 dX8_value_0 rfl ?_
  refine xj_iload_n F 1 dX8_value_1 rfl ?_
  refine xj_callVV (b := a0) (As := [.int a1]) (d' := 1) F ha0 lmX8_136 rfl rfl (Nat.le_of_ble_eq_true rfl) (xfit (Nat.le_trans (Nat.le_of_ble_eq_true rfl) hdep)) dX8_value_2 (fun hT z hz => wX8_needUnit (xnd F) (Nat.le_refl _) hT (a0 := a0) (a1 := a1) ha0 z hz) (fun m1 => ?_)
  refine xj_aload_n F 0 dX8_value_5 rfl ?_
  refine xj_getR F ha0 lgX8_23 dX8_value_6 (fun u2 hu2 => ?_)
  refine xj_iload_n F 1 dX8_value_9 rfl ?_
  refine xj_iload_n F 2 dX8_value_10 rfl ?_
  refine xj_callVI (b := u2) (As := [.int a1, .int a2]) (d' := 0) F hu2 lmX8_178 rfl rfl (Nat.le_of_ble_eq_true rfl) (xfit (Nat.le_trans (Nat.le_of_ble_eq_true rfl) hdep)) dX8_value_11 (fun hT z hz => wX6_memberNamed (xnd F) (Nat.le_refl _) hT (a0 := u2) (a1 := a1) (a2 := a2) hu2 z hz) (fun v4 m3 => ?_)
  refine xj_istore_n (lv' := [(3, .int v4), (0, .ref (xad G a0)), (1, .int a1), (2, .int a2)]) F dX8_value_14 (by decide) rfl ?_
  refine xj_aload_n F 1 dX8_value_15 rfl ?_
  refine xj_iload_n F 0 dX8_value_16 rfl ?_
  refine xj_iconst F (-1) dX8_value_17 (by decide) ?_
  refine xj_icmp_eq (tgt := 38) F dX8_value_18 (by decide) ?_ ?_
  · refine xj_sub (lv' := [(0, .ref (xad G a0)), (3, .int v4)]) [1, 0] rfl ?_
    exact jX8_value_38 F hdep a0 v4 a0 m3 ha0 ha0
  · refine xj_aload_n F 1 dX8_value_21 rfl ?_
    refine xj_getR F ha0 lgX8_23 dX8_value_22 (fun u5 hu5 => ?_)
    refine xj_getR F hu5 lgX8_151 dX8_value_25 (fun u6 hu6 => ?_)
    refine xj_iload_n F 0 dX8_value_28 rfl ?_
    refine xj_iald F hu6 dX8_value_29 (fun v7 => ?_)
    refine xj_iconst F 1 dX8_value_30 (by decide) ?_
    refine xj_icmp_ne (tgt := 38) F dX8_value_31 (by decide) ?_ ?_
    · refine xj_sub (lv' := [(0, .ref (xad G a0)), (3, .int v4)]) [1, 0] rfl ?_
      exact jX8_value_38 F hdep a0 v4 a0 m3 ha0 ha0
    · refine xj_iconst F 1 dX8_value_34 (by decide) ?_
      refine xj_goto (tgt := 39) F dX8_value_35 (by decide) ?_
      refine xj_sub (lv' := [(0, .ref (xad G a0)), (3, .int v4)]) [1, 0] rfl ?_
      exact jX8_value_39 F hdep a0 v4 a0 1 m3 ha0 ha0
set_option maxRecDepth 20000 in
set_option maxHeartbeats 4000000 in
theorem wX8_state {G : XG} {l : Launch} {d : Nat} (hn : xN G) (hdep : 205 ≤ d) {m0 : XM} (hT : xT G m0) {a0 : Nat} {a1 : Int32} (ha0 : isa G a0 8) : ∀ z, fX8_state (xln G) a0 a1 m0 = some z → xMet G l mX8_state d [.ref (xad G a0), .int a1] m0 (xrI z) := by
  refine xMet_of (by decide +kernel) hn hT (Nat.le_of_ble_eq_true rfl) (fun X F => ?_)
  refine xj_sub (lv' := [(0, .ref (xad G a0)), (1, .int a1)]) [0, 1] rfl ?_
  unfold fX8_state
  refine xj_aload_n F 0 dX8_state_0 rfl ?_
  refine xj_iload_n F 1 dX8_state_1 rfl ?_
  refine xj_callVV (b := a0) (As := [.int a1]) (d' := 1) F ha0 lmX8_136 rfl rfl (Nat.le_of_ble_eq_true rfl) (xfit (Nat.le_trans (Nat.le_of_ble_eq_true rfl) hdep)) dX8_state_2 (fun hT z hz => wX8_needUnit (xnd F) (Nat.le_refl _) hT (a0 := a0) (a1 := a1) ha0 z hz) (fun m1 => ?_)
  refine xj_aload_n F 0 dX8_state_5 rfl ?_
  refine xj_callVV (b := a0) (As := []) (d' := 204) F ha0 lmX8_164 rfl rfl (Nat.le_of_ble_eq_true rfl) (xfit (Nat.le_trans (Nat.le_of_ble_eq_true rfl) hdep)) dX8_state_6 (fun hT z hz => wX8_runPlain (xnd F) (Nat.le_refl _) hT (a0 := a0) ha0 z hz) (fun m2 => ?_)
  refine xj_aload_n F 0 dX8_state_9 rfl ?_
  refine xj_getR F ha0 lgX8_39 dX8_state_10 (fun u3 hu3 => ?_)
  refine xj_getR F hu3 lgX8_187 dX8_state_13 (fun u4 hu4 => ?_)
  refine xj_iload_n F 1 dX8_state_16 rfl ?_
  refine xj_iald F hu4 dX8_state_17 (fun v5 => ?_)
  exact xj_ret F rfl dX8_state_18
set_option maxRecDepth 20000 in
set_option maxHeartbeats 4000000 in
theorem jX8_begun_31 {G : XG} {l : Launch} {d : Nat} {X : XX} (F : xF (xE G d) G X mX8_begun) (hdep : 205 ≤ d) : ∀ (m0 : XM), xJ (xE G d) (xQ xrI G X mX8_begun) G l X mX8_begun 31 [] [] m0 (fX8_begun_31 (xln G)  m0) := by
  intro m0
  unfold fX8_begun_31
  refine xj_iconst F (-1) dX8_begun_31 (by decide) ?_
  exact xj_ret F rfl dX8_begun_32
set_option maxRecDepth 20000 in
set_option maxHeartbeats 4000000 in
theorem wX8_begun {G : XG} {l : Launch} {d : Nat} (hn : xN G) (hdep : 205 ≤ d) {m0 : XM} (hT : xT G m0) {a0 : Nat} {a1 : Int32} (ha0 : isa G a0 8) : ∀ z, fX8_begun (xln G) a0 a1 m0 = some z → xMet G l mX8_begun d [.ref (xad G a0), .int a1] m0 (xrI z) := by
  refine xMet_of (by decide +kernel) hn hT (Nat.le_of_ble_eq_true rfl) (fun X F => ?_)
  refine xj_sub (lv' := [(0, .ref (xad G a0)), (1, .int a1)]) [0, 1] rfl ?_
  unfold fX8_begun
  refine xj_aload_n F 0 dX8_begun_0 rfl ?_
  refine xj_callVV (b := a0) (As := []) (d' := 204) F ha0 lmX8_164 rfl rfl (Nat.le_of_ble_eq_true rfl) (xfit (Nat.le_trans (Nat.le_of_ble_eq_true rfl) hdep)) dX8_begun_1 (fun hT z hz => wX8_runPlain (xnd F) (Nat.le_refl _) hT (a0 := a0) ha0 z hz) (fun m1 => ?_)
  refine xj_iload_n F 1 dX8_begun_4 rfl ?_
  refine xj_if_lt (tgt := 31) F dX8_begun_5 (by decide) ?_ ?_
  · refine xj_sub (lv' := []) [] rfl ?_
    exact jX8_begun_31 F hdep m1
  · refine xj_iload_n F 1 dX8_begun_8 rfl ?_
    refine xj_aload_n F 0 dX8_begun_9 rfl ?_
    refine xj_getR F ha0 lgX8_39 dX8_begun_10 (fun u2 hu2 => ?_)
    refine xj_get F hu2 lgX8_190 dX8_begun_13 (fun v3 => ?_)
    refine xj_icmp_ge (tgt := 31) F dX8_begun_16 (by decide) ?_ ?_
    · refine xj_sub (lv' := []) [] rfl ?_
      exact jX8_begun_31 F hdep m1
    · refine xj_aload_n F 0 dX8_begun_19 rfl ?_
      refine xj_getR F ha0 lgX8_39 dX8_begun_20 (fun u4 hu4 => ?_)
      refine xj_getR F hu4 lgX8_193 dX8_begun_23 (fun u5 hu5 => ?_)
      refine xj_iload_n F 1 dX8_begun_26 rfl ?_
      refine xj_iald F hu5 dX8_begun_27 (fun v6 => ?_)
      refine xj_goto (tgt := 32) F dX8_begun_28 (by decide) ?_
      exact xj_ret F rfl dX8_begun_32
set_option maxRecDepth 20000 in
set_option maxHeartbeats 4000000 in
theorem jX8_needSurprise_24 {G : XG} {l : Launch} {d : Nat} {X : XX} (F : xF (xE G d) G X mX8_needSurprise) (hdep : 205 ≤ d) : ∀ (p0 : Nat) (m0 : XM), isa G p0 8 → xJ (xE G d) (xQ xrV G X mX8_needSurprise) G l X mX8_needSurprise 24 [] [.ref (xad G p0)] m0 (fX8_needSurprise_24 (xln G) p0 m0) := by
  intro p0 m0 hp0
  unfold fX8_needSurprise_24
  refine xj_iconst F 0 dX8_needSurprise_24 (by decide) ?_
  refine xj_callVV (b := p0) (As := [.int 0]) (d' := 0) F hp0 lmX8_181 rfl rfl (Nat.le_of_ble_eq_true rfl) (xfit (Nat.le_trans (Nat.le_of_ble_eq_true rfl) hdep)) dX8_needSurprise_25 (fun hT z hz => wX8_needElement (xnd F) (Nat.le_refl _) hT (a0 := p0) (a1 := 0) hp0 z hz) (fun m1 => ?_)
  exact xj_retV F rfl dX8_needSurprise_28
set_option maxRecDepth 20000 in
set_option maxHeartbeats 4000000 in
theorem wX8_needSurprise {G : XG} {l : Launch} {d : Nat} (hn : xN G) (hdep : 205 ≤ d) {m0 : XM} (hT : xT G m0) {a0 : Nat} {a1 : Int32} (ha0 : isa G a0 8) : ∀ z, fX8_needSurprise (xln G) a0 a1 m0 = some z → xMet G l mX8_needSurprise d [.ref (xad G a0), .int a1] m0 (xrV z) := by
  refine xMet_of (by decide +kernel) hn hT (Nat.le_of_ble_eq_true rfl) (fun X F => ?_)
  refine xj_sub (lv' := [(0, .ref (xad G a0)), (1, .int a1)]) [0, 1] rfl ?_
  unfold fX8_needSurprise
  refine xj_aload_n F 0 dX8_needSurprise_0 rfl ?_
  refine xj_callVV (b := a0) (As := []) (d' := 204) F ha0 lmX8_164 rfl rfl (Nat.le_of_ble_eq_true rfl) (xfit (Nat.le_trans (Nat.le_of_ble_eq_true rfl) hdep)) dX8_needSurprise_1 (fun hT z hz => wX8_runPlain (xnd F) (Nat.le_refl _) hT (a0 := a0) ha0 z hz) (fun m1 => ?_)
  refine xj_aload_n F 0 dX8_needSurprise_4 rfl ?_
  refine xj_iload_n F 1 dX8_needSurprise_5 rfl ?_
  refine xj_if_lt (tgt := 24) F dX8_needSurprise_6 (by decide) ?_ ?_
  · refine xj_sub (lv' := []) [] rfl ?_
    exact jX8_needSurprise_24 F hdep a0 m1 ha0
  · refine xj_iload_n F 1 dX8_needSurprise_9 rfl ?_
    refine xj_aload_n F 0 dX8_needSurprise_10 rfl ?_
    refine xj_getR F ha0 lgX8_39 dX8_needSurprise_11 (fun u2 hu2 => ?_)
    refine xj_get F hu2 lgX8_280 dX8_needSurprise_14 (fun v3 => ?_)
    refine xj_icmp_ge (tgt := 24) F dX8_needSurprise_17 (by decide) ?_ ?_
    · refine xj_sub (lv' := []) [] rfl ?_
      exact jX8_needSurprise_24 F hdep a0 m1 ha0
    · refine xj_iconst F 1 dX8_needSurprise_20 (by decide) ?_
      refine xj_goto (tgt := 25) F dX8_needSurprise_21 (by decide) ?_
      refine xj_callVV (b := a0) (As := [.int 1]) (d' := 0) F ha0 lmX8_181 rfl rfl (Nat.le_of_ble_eq_true rfl) (xfit (Nat.le_trans (Nat.le_of_ble_eq_true rfl) hdep)) dX8_needSurprise_25 (fun hT z hz => wX8_needElement (xnd F) (Nat.le_refl _) hT (a0 := a0) (a1 := 1) ha0 z hz) (fun m4 => ?_)
      exact xj_retV F rfl dX8_needSurprise_28
set_option maxRecDepth 20000 in
set_option maxHeartbeats 4000000 in
theorem jX8_sightOf_36 {G : XG} {l : Launch} {d : Nat} {X : XX} (F : xF (xE G d) G X mX8_sightOf) (hdep : 204 ≤ d) : ∀ (q0 : Nat) (m0 : XM), isa G q0 8 → xJ (xE G d) (xQ (xrR G) G X mX8_sightOf) G l X mX8_sightOf 36 [(0, .ref (xad G q0))] [] m0 (fX8_sightOf_36 (xln G) q0 m0) := by
  intro q0 m0 hq0
  unfold fX8_sightOf_36
  refine xj_aload_n F 0 dX8_sightOf_36 rfl ?_
  refine xj_getR F hq0 lgX8_39 dX8_sightOf_37 (fun u1 hu1 => ?_)
  refine xj_getR F hu1 lgX8_292 dX8_sightOf_40 (fun u2 hu2 => ?_)
  exact xj_retR F rfl hu2 (Or.inl ⟨_, rfl⟩) dX8_sightOf_43
set_option maxRecDepth 20000 in
set_option maxHeartbeats 4000000 in
theorem wX8_sightOf {G : XG} {l : Launch} {d : Nat} (hn : xN G) (hdep : 204 ≤ d) {m0 : XM} (hT : xT G m0) {a0 : Nat} {a1 : Int32} (ha0 : isa G a0 8) : ∀ z, fX8_sightOf (xln G) a0 a1 m0 = some z → xMet G l mX8_sightOf d [.ref (xad G a0), .int a1] m0 ((xrR G) z) := by
  refine xMet_of (by decide +kernel) hn hT (Nat.le_of_ble_eq_true rfl) (fun X F => ?_)
  refine xj_sub (lv' := [(0, .ref (xad G a0)), (1, .int a1)]) [0, 1] rfl ?_
  unfold fX8_sightOf
  refine xj_aload_n F 0 dX8_sightOf_0 rfl ?_
  refine xj_getR F ha0 lgX8_39 dX8_sightOf_1 (fun u1 hu1 => ?_)
  refine xj_getR F hu1 lgX8_292 dX8_sightOf_4 (fun u2 hu2 => ?_)
  refine xj_get F hu2 lgX8_296 dX8_sightOf_7 (fun v3 => ?_)
  refine xj_iload_n F 1 dX8_sightOf_10 rfl ?_
  refine xj_icmp_eq (tgt := 36) F dX8_sightOf_11 (by decide) ?_ ?_
  · refine xj_sub (lv' := [(0, .ref (xad G a0))]) [0] rfl ?_
    exact jX8_sightOf_36 F hdep a0 m0 ha0
  · refine xj_aload_n F 0 dX8_sightOf_14 rfl ?_
    refine xj_getR F ha0 lgX8_39 dX8_sightOf_15 (fun u4 hu4 => ?_)
    refine xj_getR F hu4 lgX8_292 dX8_sightOf_18 (fun u5 hu5 => ?_)
    refine xj_iload_n F 1 dX8_sightOf_21 rfl ?_
    refine xj_put F hu5 lpX8_296 dX8_sightOf_22 (fun m6 => ?_)
    refine xj_aload_n F 0 dX8_sightOf_25 rfl ?_
    refine xj_getR F ha0 lgX8_39 dX8_sightOf_26 (fun u7 hu7 => ?_)
    refine xj_aload_n F 0 dX8_sightOf_29 rfl ?_
    refine xj_getR F ha0 lgX8_23 dX8_sightOf_30 (fun u8 hu8 => ?_)
    refine xj_callVV (b := u7) (As := [.ref (xad G u8)]) (d' := 203) F hu7 lmX8_289 rfl rfl (Nat.le_of_ble_eq_true rfl) (xfit (Nat.le_trans (Nat.le_of_ble_eq_true rfl) hdep)) dX8_sightOf_33 (fun hT z hz => wX2_runPlainly (xnd F) (Nat.le_refl _) hT (a0 := u7) (a1 := u8) hu7 hu8 z hz) (fun m9 => ?_)
    refine xj_sub (lv' := [(0, .ref (xad G a0))]) [0] rfl ?_
    exact jX8_sightOf_36 F hdep a0 m9 ha0
set_option maxRecDepth 20000 in
set_option maxHeartbeats 4000000 in
theorem wX8_surprise {G : XG} {l : Launch} {d : Nat} (hn : xN G) (hdep : 206 ≤ d) {m0 : XM} (hT : xT G m0) {a0 : Nat} {a1 : Int32} {a2 : Int32} (ha0 : isa G a0 8) : ∀ z, fX8_surprise (xln G) a0 a1 a2 m0 = some z → xMet G l mX8_surprise d [.ref (xad G a0), .int a1, .int a2] m0 (xrI z) := by
  refine xMet_of (by decide +kernel) hn hT (Nat.le_of_ble_eq_true rfl) (fun X F => ?_)
  refine xj_sub (lv' := [(0, .ref (xad G a0)), (1, .int a1), (2, .int a2)]) [0, 1, 2] rfl ?_
  unfold fX8_surprise
  refine xj_aload_n F 0 dX8_surprise_0 rfl ?_
  refine xj_iload_n F 1 dX8_surprise_1 rfl ?_
  refine xj_callVV (b := a0) (As := [.int a1]) (d' := 205) F ha0 lmX8_196 rfl rfl (Nat.le_of_ble_eq_true rfl) (xfit (Nat.le_trans (Nat.le_of_ble_eq_true rfl) hdep)) dX8_surprise_2 (fun hT z hz => wX8_needSurprise (xnd F) (Nat.le_refl _) hT (a0 := a0) (a1 := a1) ha0 z hz) (fun m1 => ?_)
  refine xj_aload_n F 0 dX8_surprise_5 rfl ?_
  refine xj_iload_n F 2 dX8_surprise_6 rfl ?_
  refine xj_iconst F 5 dX8_surprise_7 (by decide) ?_
  refine xj_callVV (b := a0) (As := [.int a2, .int 5]) (d' := 1) F ha0 lmX8_126 rfl rfl (Nat.le_of_ble_eq_true rfl) (xfit (Nat.le_trans (Nat.le_of_ble_eq_true rfl) hdep)) dX8_surprise_8 (fun hT z hz => wX8_needWhat (xnd F) (Nat.le_refl _) hT (a0 := a0) (a1 := a2) (a2 := 5) ha0 z hz) (fun m2 => ?_)
  refine xj_aload_n F 0 dX8_surprise_11 rfl ?_
  refine xj_iload_n F 1 dX8_surprise_12 rfl ?_
  refine xj_callVR (b := a0) (As := [.int a1]) (d' := 204) F ha0 lmX8_199 rfl rfl (Nat.le_of_ble_eq_true rfl) (xfit (Nat.le_trans (Nat.le_of_ble_eq_true rfl) hdep)) dX8_surprise_13 (fun hT z hz => wX8_sightOf (xnd F) (Nat.le_refl _) hT (a0 := a0) (a1 := a1) ha0 z hz) (fun u4 m3 hu4 => ?_)
  refine xj_iload_n F 2 dX8_surprise_16 rfl ?_
  refine xj_callVI (b := u4) (As := [.int a2]) (d' := 0) F hu4 lmX8_203 rfl rfl (Nat.le_of_ble_eq_true rfl) (xfit (Nat.le_trans (Nat.le_of_ble_eq_true rfl) hdep)) dX8_surprise_17 (fun hT z hz => wX4_tell (xnd F) (Nat.le_refl _) hT (a0 := u4) (a1 := a2) hu4 z hz) (fun v6 m5 => ?_)
  exact xj_ret F rfl dX8_surprise_20
set_option maxRecDepth 20000 in
set_option maxHeartbeats 4000000 in
theorem jX8_trace_32 {G : XG} {l : Launch} {d : Nat} {X : XX} (F : xF (xE G d) G X mX8_trace) (hdep : 206 ≤ d) : ∀ (m0 : XM), xJ (xE G d) (xQ xrI G X mX8_trace) G l X mX8_trace 32 [] [] m0 (fX8_trace_32 (xln G)  m0) := by
  intro m0
  unfold fX8_trace_32
  refine xj_iconst F (-1) dX8_trace_32 (by decide) ?_
  exact xj_ret F rfl dX8_trace_33
set_option maxRecDepth 20000 in
set_option maxHeartbeats 4000000 in
theorem wX8_trace {G : XG} {l : Launch} {d : Nat} (hn : xN G) (hdep : 206 ≤ d) {m0 : XM} (hT : xT G m0) {a0 : Nat} {a1 : Int32} {a2 : Int32} (ha0 : isa G a0 8) : ∀ z, fX8_trace (xln G) a0 a1 a2 m0 = some z → xMet G l mX8_trace d [.ref (xad G a0), .int a1, .int a2] m0 (xrI z) := by
  refine xMet_of (by decide +kernel) hn hT (Nat.le_of_ble_eq_true rfl) (fun X F => ?_)
  refine xj_sub (lv' := [(0, .ref (xad G a0)), (1, .int a1), (2, .int a2)]) [0, 1, 2] rfl ?_
  unfold fX8_trace
  refine xj_aload_n F 0 dX8_trace_0 rfl ?_
  refine xj_iload_n F 1 dX8_trace_1 rfl ?_
  refine xj_callVV (b := a0) (As := [.int a1]) (d' := 205) F ha0 lmX8_196 rfl rfl (Nat.le_of_ble_eq_true rfl) (xfit (Nat.le_trans (Nat.le_of_ble_eq_true rfl) hdep)) dX8_trace_2 (fun hT z hz => wX8_needSurprise (xnd F) (Nat.le_refl _) hT (a0 := a0) (a1 := a1) ha0 z hz) (fun m1 => ?_)
  refine xj_aload_n F 0 dX8_trace_5 rfl ?_
  refine xj_iload_n F 1 dX8_trace_6 rfl ?_
  refine xj_callVR (b := a0) (As := [.int a1]) (d' := 204) F ha0 lmX8_199 rfl rfl (Nat.le_of_ble_eq_true rfl) (xfit (Nat.le_trans (Nat.le_of_ble_eq_true rfl) hdep)) dX8_trace_7 (fun hT z hz => wX8_sightOf (xnd F) (Nat.le_refl _) hT (a0 := a0) (a1 := a1) ha0 z hz) (fun u3 m2 hu3 => ?_)
  refine xj_astore_n (lv' := [(3, .ref (xad G u3)), (0, .ref (xad G a0)), (1, .int a1), (2, .int a2)]) F dX8_trace_10 (by decide) rfl ?_
  refine xj_iload_n F 3 dX8_trace_11 rfl ?_
  refine xj_if_lt (tgt := 32) F dX8_trace_12 (by decide) ?_ ?_
  · refine xj_sub (lv' := []) [] rfl ?_
    exact jX8_trace_32 F hdep m2
  · refine xj_iload_n F 3 dX8_trace_15 rfl ?_
    refine xj_aload_n F 0 dX8_trace_16 rfl ?_
    refine xj_get F hu3 lgX8_208 dX8_trace_17 (fun v4 => ?_)
    refine xj_icmp_ge (tgt := 32) F dX8_trace_20 (by decide) ?_ ?_
    · refine xj_sub (lv' := []) [] rfl ?_
      exact jX8_trace_32 F hdep m2
    · refine xj_aload_n F 0 dX8_trace_23 rfl ?_
      refine xj_getR F hu3 lgX8_211 dX8_trace_24 (fun u5 hu5 => ?_)
      refine xj_iload_n F 3 dX8_trace_27 rfl ?_
      refine xj_iald F hu5 dX8_trace_28 (fun v6 => ?_)
      refine xj_goto (tgt := 33) F dX8_trace_29 (by decide) ?_
      exact xj_ret F rfl dX8_trace_33
set_option maxRecDepth 20000 in
set_option maxHeartbeats 4000000 in
theorem wX8_broken {G : XG} {l : Launch} {d : Nat} (hn : xN G) (hdep : 205 ≤ d) {m0 : XM} (hT : xT G m0) {a0 : Nat} {a1 : Int32} {a2 : Int32} (ha0 : isa G a0 8) : ∀ z, fX8_broken (xln G) a0 a1 a2 m0 = some z → xMet G l mX8_broken d [.ref (xad G a0), .int a1, .int a2] m0 (xrI z) := by
  refine xMet_of (by decide +kernel) hn hT (Nat.le_of_ble_eq_true rfl) (fun X F => ?_)
  refine xj_sub (lv' := [(0, .ref (xad G a0)), (1, .int a1), (2, .int a2)]) [0, 1, 2] rfl ?_
  unfold fX8_broken
  refine xj_aload_n F 0 dX8_broken_0 rfl ?_
  refine xj_iload_n F 1 dX8_broken_1 rfl ?_
  refine xj_callVV (b := a0) (As := [.int a1]) (d' := 1) F ha0 lmX8_136 rfl rfl (Nat.le_of_ble_eq_true rfl) (xfit (Nat.le_trans (Nat.le_of_ble_eq_true rfl) hdep)) dX8_broken_2 (fun hT z hz => wX8_needUnit (xnd F) (Nat.le_refl _) hT (a0 := a0) (a1 := a1) ha0 z hz) (fun m1 => ?_)
  refine xj_aload_n F 0 dX8_broken_5 rfl ?_
  refine xj_iload_n F 2 dX8_broken_6 rfl ?_
  refine xj_iconst F 2 dX8_broken_7 (by decide) ?_
  refine xj_callVV (b := a0) (As := [.int a2, .int 2]) (d' := 1) F ha0 lmX8_126 rfl rfl (Nat.le_of_ble_eq_true rfl) (xfit (Nat.le_trans (Nat.le_of_ble_eq_true rfl) hdep)) dX8_broken_8 (fun hT z hz => wX8_needWhat (xnd F) (Nat.le_refl _) hT (a0 := a0) (a1 := a2) (a2 := 2) ha0 z hz) (fun m2 => ?_)
  refine xj_aload_n F 0 dX8_broken_11 rfl ?_
  refine xj_callVV (b := a0) (As := []) (d' := 204) F ha0 lmX8_164 rfl rfl (Nat.le_of_ble_eq_true rfl) (xfit (Nat.le_trans (Nat.le_of_ble_eq_true rfl) hdep)) dX8_broken_12 (fun hT z hz => wX8_runPlain (xnd F) (Nat.le_refl _) hT (a0 := a0) ha0 z hz) (fun m3 => ?_)
  refine xj_aload_n F 0 dX8_broken_15 rfl ?_
  refine xj_getR F ha0 lgX8_39 dX8_broken_16 (fun u4 hu4 => ?_)
  refine xj_getR F hu4 lgX8_187 dX8_broken_19 (fun u5 hu5 => ?_)
  refine xj_iload_n F 1 dX8_broken_22 rfl ?_
  refine xj_iald F hu5 dX8_broken_23 (fun v6 => ?_)
  refine xj_iconst F 3 dX8_broken_24 (by decide) ?_
  refine xj_icmp_ne (tgt := 42) F dX8_broken_25 (by decide) ?_ ?_
  · refine xj_iconst F (-1) dX8_broken_42 (by decide) ?_
    exact xj_ret F rfl dX8_broken_43
  · refine xj_aload_n F 0 dX8_broken_28 rfl ?_
    refine xj_getR F ha0 lgX8_39 dX8_broken_29 (fun u7 hu7 => ?_)
    refine xj_getR F hu7 lgX8_214 dX8_broken_32 (fun u8 hu8 => ?_)
    refine xj_iload_n F 2 dX8_broken_35 rfl ?_
    refine xj_aald F hu8 dX8_broken_36 (fun u9 hu9 => ?_)
    refine xj_iload_n F 1 dX8_broken_37 rfl ?_
    refine xj_iald F hu9 dX8_broken_38 (fun v10 => ?_)
    refine xj_goto (tgt := 43) F dX8_broken_39 (by decide) ?_
    exact xj_ret F rfl dX8_broken_43
set_option maxRecDepth 20000 in
set_option maxHeartbeats 4000000 in
theorem wX8_alike {G : XG} {l : Launch} {d : Nat} (hn : xN G) (hdep : 205 ≤ d) {m0 : XM} (hT : xT G m0) {a0 : Nat} {a1 : Int32} (ha0 : isa G a0 8) : ∀ z, fX8_alike (xln G) a0 a1 m0 = some z → xMet G l mX8_alike d [.ref (xad G a0), .int a1] m0 (xrI z) := by
  refine xMet_of (by decide +kernel) hn hT (Nat.le_of_ble_eq_true rfl) (fun X F => ?_)
  refine xj_sub (lv' := [(0, .ref (xad G a0)), (1, .int a1)]) [0, 1] rfl ?_
  unfold fX8_alike
  refine xj_aload_n F 0 dX8_alike_0 rfl ?_
  refine xj_aload_n F 0 dX8_alike_1 rfl ?_
  refine xj_iload_n F 1 dX8_alike_2 rfl ?_
  refine xj_callVI (b := a0) (As := [.int a1]) (d' := 0) F ha0 lmX8_170 rfl rfl (Nat.le_of_ble_eq_true rfl) (xfit (Nat.le_trans (Nat.le_of_ble_eq_true rfl) hdep)) dX8_alike_3 (fun hT z hz => wX8_takesOrder (xnd F) (Nat.le_refl _) hT (a0 := a0) (a1 := a1) ha0 z hz) (fun v2 m1 => ?_)
  refine xj_callVV (b := a0) (As := [.int v2]) (d' := 0) F ha0 lmX8_76 rfl rfl (Nat.le_of_ble_eq_true rfl) (xfit (Nat.le_trans (Nat.le_of_ble_eq_true rfl) hdep)) dX8_alike_6 (fun hT z hz => wX8_needArgument (xnd F) (Nat.le_refl _) hT (a0 := a0) (a1 := v2) ha0 z hz) (fun m3 => ?_)
  refine xj_aload_n F 0 dX8_alike_9 rfl ?_
  refine xj_callVV (b := a0) (As := []) (d' := 204) F ha0 lmX8_164 rfl rfl (Nat.le_of_ble_eq_true rfl) (xfit (Nat.le_trans (Nat.le_of_ble_eq_true rfl) hdep)) dX8_alike_10 (fun hT z hz => wX8_runPlain (xnd F) (Nat.le_refl _) hT (a0 := a0) ha0 z hz) (fun m4 => ?_)
  refine xj_aload_n F 0 dX8_alike_13 rfl ?_
  refine xj_getR F ha0 lgX8_43 dX8_alike_14 (fun u5 hu5 => ?_)
  refine xj_aload_n F 0 dX8_alike_17 rfl ?_
  refine xj_getR F ha0 lgX8_23 dX8_alike_18 (fun u6 hu6 => ?_)
  refine xj_aload_n F 0 dX8_alike_21 rfl ?_
  refine xj_getR F ha0 lgX8_46 dX8_alike_22 (fun u7 hu7 => ?_)
  refine xj_callVV (b := u5) (As := [.ref (xad G u6), .ref (xad G u7)]) (d' := 203) F hu5 lmX8_174 rfl rfl (Nat.le_of_ble_eq_true rfl) (xfit (Nat.le_trans (Nat.le_of_ble_eq_true rfl) hdep)) dX8_alike_25 (fun hT z hz => wX2_runAhead (xnd F) (Nat.le_refl _) hT (a0 := u5) (a1 := u6) (a2 := u7) hu5 hu6 hu7 z hz) (fun m8 => ?_)
  refine xj_aload_n F 0 dX8_alike_28 rfl ?_
  refine xj_getR F ha0 lgX8_39 dX8_alike_29 (fun u9 hu9 => ?_)
  refine xj_get F hu9 lgX8_218 dX8_alike_32 (fun v10 => ?_)
  refine xj_if_ne (tgt := 48) F dX8_alike_35 (by decide) ?_ ?_
  · refine xj_bipush F (-2) dX8_alike_48 (by decide) ?_
    exact xj_ret F rfl dX8_alike_50
  · refine xj_aload_n F 0 dX8_alike_38 rfl ?_
    refine xj_getR F ha0 lgX8_43 dX8_alike_39 (fun u11 hu11 => ?_)
    refine xj_get F hu11 lgX8_218 dX8_alike_42 (fun v12 => ?_)
    refine xj_if_eq (tgt := 51) F dX8_alike_45 (by decide) ?_ ?_
    · refine xj_aload_n F 0 dX8_alike_51 rfl ?_
      refine xj_getR F ha0 lgX8_39 dX8_alike_52 (fun u13 hu13 => ?_)
      refine xj_aload_n F 0 dX8_alike_55 rfl ?_
      refine xj_getR F ha0 lgX8_43 dX8_alike_56 (fun u14 hu14 => ?_)
      refine xj_callVI (b := u13) (As := [.ref (xad G u14)]) (d' := 1) F hu13 lmX8_222 rfl rfl (Nat.le_of_ble_eq_true rfl) (xfit (Nat.le_trans (Nat.le_of_ble_eq_true rfl) hdep)) dX8_alike_59 (fun hT z hz => wX2_agreesWhereDone (xnd F) (Nat.le_refl _) hT (a0 := u13) (a1 := u14) hu13 hu14 z hz) (fun v16 m15 => ?_)
      refine xj_if_eq (tgt := 69) F dX8_alike_62 (by decide) ?_ ?_
      · refine xj_iconst F 0 dX8_alike_69 (by decide) ?_
        exact xj_ret F rfl dX8_alike_70
      · refine xj_iconst F 1 dX8_alike_65 (by decide) ?_
        refine xj_goto (tgt := 70) F dX8_alike_66 (by decide) ?_
        exact xj_ret F rfl dX8_alike_70
    · refine xj_bipush F (-2) dX8_alike_48 (by decide) ?_
      exact xj_ret F rfl dX8_alike_50
set_option maxRecDepth 20000 in
set_option maxHeartbeats 4000000 in
theorem wX8_fewest {G : XG} {l : Launch} {d : Nat} (hn : xN G) (hdep : 225 ≤ d) {m0 : XM} (hT : xT G m0) {a0 : Nat} {a1 : Int32} (ha0 : isa G a0 8) : ∀ z, fX8_fewest (xln G) a0 a1 m0 = some z → xMet G l mX8_fewest d [.ref (xad G a0), .int a1] m0 (xrI z) := by
  refine xMet_of (by decide +kernel) hn hT (Nat.le_of_ble_eq_true rfl) (fun X F => ?_)
  refine xj_sub (lv' := [(0, .ref (xad G a0)), (1, .int a1)]) [0, 1] rfl ?_
  unfold fX8_fewest
  refine xj_aload_n F 0 dX8_fewest_0 rfl ?_
  refine xj_iload_n F 1 dX8_fewest_1 rfl ?_
  refine xj_iconst F 2 dX8_fewest_2 (by decide) ?_
  refine xj_callVV (b := a0) (As := [.int a1, .int 2]) (d' := 1) F ha0 lmX8_126 rfl rfl (Nat.le_of_ble_eq_true rfl) (xfit (Nat.le_trans (Nat.le_of_ble_eq_true rfl) hdep)) dX8_fewest_3 (fun hT z hz => wX8_needWhat (xnd F) (Nat.le_refl _) hT (a0 := a0) (a1 := a1) (a2 := 2) ha0 z hz) (fun m1 => ?_)
  refine xj_aload_n F 0 dX8_fewest_6 rfl ?_
  refine xj_getR F ha0 lgX8_54 dX8_fewest_7 (fun u2 hu2 => ?_)
  refine xj_aload_n F 0 dX8_fewest_10 rfl ?_
  refine xj_getR F ha0 lgX8_23 dX8_fewest_11 (fun u3 hu3 => ?_)
  refine xj_callVV (b := u2) (As := [.ref (xad G u3)]) (d' := 224) F hu2 lmX8_226 rfl rfl (Nat.le_of_ble_eq_true rfl) (xfit (Nat.le_trans (Nat.le_of_ble_eq_true rfl) hdep)) dX8_fewest_14 (fun hT z hz => wX3_seekFewest (xnd F) (Nat.le_refl _) hT (a0 := u2) (a1 := u3) hu2 hu3 z hz) (fun m4 => ?_)
  refine xj_iload_n F 1 dX8_fewest_17 rfl ?_
  refine xj_ite (c := a1 = 0) (fun h5 => ?_) (fun h5 => ?_)
  · refine xj_look F 44 dX8_fewest_18 (by decide) (by subst h5; rfl) (by decide) ?_
    refine xj_aload_n F 0 dX8_fewest_44 rfl ?_
    refine xj_getR F ha0 lgX8_54 dX8_fewest_45 (fun u6 hu6 => ?_)
    refine xj_get F hu6 lgX8_229 dX8_fewest_48 (fun v7 => ?_)
    exact xj_ret F rfl dX8_fewest_51
  · skip
    refine xj_ite (c := a1 = 1) (fun h8 => ?_) (fun h8 => ?_)
    · refine xj_look F 52 dX8_fewest_18 (by decide) (by subst h8; rfl) (by decide) ?_
      refine xj_aload_n F 0 dX8_fewest_52 rfl ?_
      refine xj_getR F ha0 lgX8_54 dX8_fewest_53 (fun u9 hu9 => ?_)
      refine xj_get F hu9 lgX8_232 dX8_fewest_56 (fun v10 => ?_)
      exact xj_ret F rfl dX8_fewest_59
    · skip
      have eh5 := xne 0 h5 rfl
      have eh8 := xne 1 h8 rfl
      refine xj_look F 60 dX8_fewest_18 (by decide) (off := 42) (by simp only [lv_osw h5 (show Int32.toInt 0 = 0 from rfl), lv_osw h8 (show Int32.toInt 1 = 1 from rfl)]; rfl) (by decide) ?_
      refine xj_aload_n F 0 dX8_fewest_60 rfl ?_
      refine xj_getR F ha0 lgX8_54 dX8_fewest_61 (fun u11 hu11 => ?_)
      refine xj_get F hu11 lgX8_235 dX8_fewest_64 (fun v12 => ?_)
      exact xj_ret F rfl dX8_fewest_67
set_option maxRecDepth 20000 in
set_option maxHeartbeats 4000000 in
theorem wX8_touches {G : XG} {l : Launch} {d : Nat} (hn : xN G) (hdep : 4 ≤ d) {m0 : XM} (hT : xT G m0) {a0 : Nat} {a1 : Int32} (ha0 : isa G a0 8) : ∀ z, fX8_touches (xln G) a0 a1 m0 = some z → xMet G l mX8_touches d [.ref (xad G a0), .int a1] m0 (xrI z) := by
  refine xMet_of (by decide +kernel) hn hT (Nat.le_of_ble_eq_true rfl) (fun X F => ?_)
  refine xj_sub (lv' := [(0, .ref (xad G a0)), (1, .int a1)]) [0, 1] rfl ?_
  unfold fX8_touches
  refine xj_aload_n F 0 dX8_touches_0 rfl ?_
  refine xj_iload_n F 1 dX8_touches_1 rfl ?_
  refine xj_callVV (b := a0) (As := [.int a1]) (d' := 1) F ha0 lmX8_136 rfl rfl (Nat.le_of_ble_eq_true rfl) (xfit (Nat.le_trans (Nat.le_of_ble_eq_true rfl) hdep)) dX8_touches_2 (fun hT z hz => wX8_needUnit (xnd F) (Nat.le_refl _) hT (a0 := a0) (a1 := a1) ha0 z hz) (fun m1 => ?_)
  refine xj_aload_n F 0 dX8_touches_5 rfl ?_
  refine xj_getR F ha0 lgX8_61 dX8_touches_6 (fun u2 hu2 => ?_)
  refine xj_aload_n F 0 dX8_touches_9 rfl ?_
  refine xj_getR F ha0 lgX8_23 dX8_touches_10 (fun u3 hu3 => ?_)
  refine xj_callVV (b := u2) (As := [.ref (xad G u3)]) (d' := 3) F hu2 lmX8_238 rfl rfl (Nat.le_of_ble_eq_true rfl) (xfit (Nat.le_trans (Nat.le_of_ble_eq_true rfl) hdep)) dX8_touches_13 (fun hT z hz => wX7_spin (xnd F) (Nat.le_refl _) hT (a0 := u2) (a1 := u3) hu2 hu3 z hz) (fun m4 => ?_)
  refine xj_aload_n F 0 dX8_touches_16 rfl ?_
  refine xj_getR F ha0 lgX8_61 dX8_touches_17 (fun u5 hu5 => ?_)
  refine xj_getR F hu5 lgX8_241 dX8_touches_20 (fun u6 hu6 => ?_)
  refine xj_iload_n F 1 dX8_touches_23 rfl ?_
  refine xj_iald F hu6 dX8_touches_24 (fun v7 => ?_)
  exact xj_ret F rfl dX8_touches_25
set_option maxRecDepth 20000 in
set_option maxHeartbeats 4000000 in
theorem wX8_reach {G : XG} {l : Launch} {d : Nat} (hn : xN G) (hdep : 4 ≤ d) {m0 : XM} (hT : xT G m0) {a0 : Nat} {a1 : Int32} (ha0 : isa G a0 8) : ∀ z, fX8_reach (xln G) a0 a1 m0 = some z → xMet G l mX8_reach d [.ref (xad G a0), .int a1] m0 (xrI z) := by
  refine xMet_of (by decide +kernel) hn hT (Nat.le_of_ble_eq_true rfl) (fun X F => ?_)
  refine xj_sub (lv' := [(0, .ref (xad G a0)), (1, .int a1)]) [0, 1] rfl ?_
  unfold fX8_reach
  refine xj_aload_n F 0 dX8_reach_0 rfl ?_
  refine xj_iload_n F 1 dX8_reach_1 rfl ?_
  refine xj_callVV (b := a0) (As := [.int a1]) (d' := 1) F ha0 lmX8_136 rfl rfl (Nat.le_of_ble_eq_true rfl) (xfit (Nat.le_trans (Nat.le_of_ble_eq_true rfl) hdep)) dX8_reach_2 (fun hT z hz => wX8_needUnit (xnd F) (Nat.le_refl _) hT (a0 := a0) (a1 := a1) ha0 z hz) (fun m1 => ?_)
  refine xj_aload_n F 0 dX8_reach_5 rfl ?_
  refine xj_getR F ha0 lgX8_61 dX8_reach_6 (fun u2 hu2 => ?_)
  refine xj_aload_n F 0 dX8_reach_9 rfl ?_
  refine xj_getR F ha0 lgX8_23 dX8_reach_10 (fun u3 hu3 => ?_)
  refine xj_callVV (b := u2) (As := [.ref (xad G u3)]) (d' := 3) F hu2 lmX8_238 rfl rfl (Nat.le_of_ble_eq_true rfl) (xfit (Nat.le_trans (Nat.le_of_ble_eq_true rfl) hdep)) dX8_reach_13 (fun hT z hz => wX7_spin (xnd F) (Nat.le_refl _) hT (a0 := u2) (a1 := u3) hu2 hu3 z hz) (fun m4 => ?_)
  refine xj_aload_n F 0 dX8_reach_16 rfl ?_
  refine xj_getR F ha0 lgX8_61 dX8_reach_17 (fun u5 hu5 => ?_)
  refine xj_getR F hu5 lgX8_244 dX8_reach_20 (fun u6 hu6 => ?_)
  refine xj_iload_n F 1 dX8_reach_23 rfl ?_
  refine xj_iald F hu6 dX8_reach_24 (fun v7 => ?_)
  exact xj_ret F rfl dX8_reach_25
set_option maxRecDepth 20000 in
set_option maxHeartbeats 4000000 in
theorem wX8_ring {G : XG} {l : Launch} {d : Nat} (hn : xN G) (hdep : 4 ≤ d) {m0 : XM} (hT : xT G m0) {a0 : Nat} {a1 : Int32} (ha0 : isa G a0 8) : ∀ z, fX8_ring (xln G) a0 a1 m0 = some z → xMet G l mX8_ring d [.ref (xad G a0), .int a1] m0 (xrI z) := by
  refine xMet_of (by decide +kernel) hn hT (Nat.le_of_ble_eq_true rfl) (fun X F => ?_)
  refine xj_sub (lv' := [(0, .ref (xad G a0)), (1, .int a1)]) [0, 1] rfl ?_
  unfold fX8_ring
  refine xj_aload_n F 0 dX8_ring_0 rfl ?_
  refine xj_iload_n F 1 dX8_ring_1 rfl ?_
  refine xj_callVV (b := a0) (As := [.int a1]) (d' := 1) F ha0 lmX8_136 rfl rfl (Nat.le_of_ble_eq_true rfl) (xfit (Nat.le_trans (Nat.le_of_ble_eq_true rfl) hdep)) dX8_ring_2 (fun hT z hz => wX8_needUnit (xnd F) (Nat.le_refl _) hT (a0 := a0) (a1 := a1) ha0 z hz) (fun m1 => ?_)
  refine xj_aload_n F 0 dX8_ring_5 rfl ?_
  refine xj_getR F ha0 lgX8_61 dX8_ring_6 (fun u2 hu2 => ?_)
  refine xj_aload_n F 0 dX8_ring_9 rfl ?_
  refine xj_getR F ha0 lgX8_23 dX8_ring_10 (fun u3 hu3 => ?_)
  refine xj_callVV (b := u2) (As := [.ref (xad G u3)]) (d' := 3) F hu2 lmX8_238 rfl rfl (Nat.le_of_ble_eq_true rfl) (xfit (Nat.le_trans (Nat.le_of_ble_eq_true rfl) hdep)) dX8_ring_13 (fun hT z hz => wX7_spin (xnd F) (Nat.le_refl _) hT (a0 := u2) (a1 := u3) hu2 hu3 z hz) (fun m4 => ?_)
  refine xj_aload_n F 0 dX8_ring_16 rfl ?_
  refine xj_getR F ha0 lgX8_61 dX8_ring_17 (fun u5 hu5 => ?_)
  refine xj_iload_n F 1 dX8_ring_20 rfl ?_
  refine xj_callVI (b := u5) (As := [.int a1]) (d' := 0) F hu5 lmX8_247 rfl rfl (Nat.le_of_ble_eq_true rfl) (xfit (Nat.le_trans (Nat.le_of_ble_eq_true rfl) hdep)) dX8_ring_21 (fun hT z hz => wX7_ringOf (xnd F) (Nat.le_refl _) hT (a0 := u5) (a1 := a1) hu5 z hz) (fun v7 m6 => ?_)
  exact xj_ret F rfl dX8_ring_24
set_option maxRecDepth 20000 in
set_option maxHeartbeats 4000000 in
theorem wX8_least {G : XG} {l : Launch} {d : Nat} (hn : xN G) (hdep : 5 ≤ d) {m0 : XM} (hT : xT G m0) {a0 : Nat} {a1 : Int32} (ha0 : isa G a0 8) : ∀ z, fX8_least (xln G) a0 a1 m0 = some z → xMet G l mX8_least d [.ref (xad G a0), .int a1] m0 (xrI z) := by
  refine xMet_of (by decide +kernel) hn hT (Nat.le_of_ble_eq_true rfl) (fun X F => ?_)
  refine xj_sub (lv' := [(0, .ref (xad G a0)), (1, .int a1)]) [0, 1] rfl ?_
  unfold fX8_least
  refine xj_aload_n F 0 dX8_least_0 rfl ?_
  refine xj_iload_n F 1 dX8_least_1 rfl ?_
  refine xj_iconst F 1 dX8_least_2 (by decide) ?_
  refine xj_callVV (b := a0) (As := [.int a1, .int 1]) (d' := 1) F ha0 lmX8_126 rfl rfl (Nat.le_of_ble_eq_true rfl) (xfit (Nat.le_trans (Nat.le_of_ble_eq_true rfl) hdep)) dX8_least_3 (fun hT z hz => wX8_needWhat (xnd F) (Nat.le_refl _) hT (a0 := a0) (a1 := a1) (a2 := 1) ha0 z hz) (fun m1 => ?_)
  refine xj_aload_n F 0 dX8_least_6 rfl ?_
  refine xj_getR F ha0 lgX8_61 dX8_least_7 (fun u2 hu2 => ?_)
  refine xj_aload_n F 0 dX8_least_10 rfl ?_
  refine xj_getR F ha0 lgX8_23 dX8_least_11 (fun u3 hu3 => ?_)
  refine xj_callVV (b := u2) (As := [.ref (xad G u3)]) (d' := 3) F hu2 lmX8_238 rfl rfl (Nat.le_of_ble_eq_true rfl) (xfit (Nat.le_trans (Nat.le_of_ble_eq_true rfl) hdep)) dX8_least_14 (fun hT z hz => wX7_spin (xnd F) (Nat.le_refl _) hT (a0 := u2) (a1 := u3) hu2 hu3 z hz) (fun m4 => ?_)
  refine xj_iload_n F 1 dX8_least_17 rfl ?_
  refine xj_if_ne (tgt := 31) F dX8_least_18 (by decide) ?_ ?_
  · refine xj_aload_n F 0 dX8_least_31 rfl ?_
    refine xj_getR F ha0 lgX8_61 dX8_least_32 (fun u5 hu5 => ?_)
    refine xj_callVI (b := u5) (As := []) (d' := 4) F hu5 lmX8_253 rfl rfl (Nat.le_of_ble_eq_true rfl) (xfit (Nat.le_trans (Nat.le_of_ble_eq_true rfl) hdep)) dX8_least_35 (fun hT z hz => wX7_leastBreaking (xnd F) (Nat.le_refl _) hT (a0 := u5) hu5 z hz) (fun v7 m6 => ?_)
    exact xj_ret F rfl dX8_least_38
  · refine xj_aload_n F 0 dX8_least_21 rfl ?_
    refine xj_getR F ha0 lgX8_61 dX8_least_22 (fun u8 hu8 => ?_)
    refine xj_callVI (b := u8) (As := []) (d' := 4) F hu8 lmX8_250 rfl rfl (Nat.le_of_ble_eq_true rfl) (xfit (Nat.le_trans (Nat.le_of_ble_eq_true rfl) hdep)) dX8_least_25 (fun hT z hz => wX7_fewestBroken (xnd F) (Nat.le_refl _) hT (a0 := u8) hu8 z hz) (fun v10 m9 => ?_)
    refine xj_goto (tgt := 38) F dX8_least_28 (by decide) ?_
    exact xj_ret F rfl dX8_least_38
set_option maxRecDepth 20000 in
set_option maxHeartbeats 4000000 in
theorem wX8_breaks {G : XG} {l : Launch} {d : Nat} (hn : xN G) (hdep : 4 ≤ d) {m0 : XM} (hT : xT G m0) {a0 : Nat} {a1 : Int32} (ha0 : isa G a0 8) : ∀ z, fX8_breaks (xln G) a0 a1 m0 = some z → xMet G l mX8_breaks d [.ref (xad G a0), .int a1] m0 (xrI z) := by
  refine xMet_of (by decide +kernel) hn hT (Nat.le_of_ble_eq_true rfl) (fun X F => ?_)
  refine xj_sub (lv' := [(0, .ref (xad G a0)), (1, .int a1)]) [0, 1] rfl ?_
  unfold fX8_breaks
  refine xj_aload_n F 0 dX8_breaks_0 rfl ?_
  refine xj_aload_n F 0 dX8_breaks_1 rfl ?_
  refine xj_iload_n F 1 dX8_breaks_2 rfl ?_
  refine xj_callVI (b := a0) (As := [.int a1]) (d' := 0) F ha0 lmX8_170 rfl rfl (Nat.le_of_ble_eq_true rfl) (xfit (Nat.le_trans (Nat.le_of_ble_eq_true rfl) hdep)) dX8_breaks_3 (fun hT z hz => wX8_takesOrder (xnd F) (Nat.le_refl _) hT (a0 := a0) (a1 := a1) ha0 z hz) (fun v2 m1 => ?_)
  refine xj_callVV (b := a0) (As := [.int v2]) (d' := 0) F ha0 lmX8_76 rfl rfl (Nat.le_of_ble_eq_true rfl) (xfit (Nat.le_trans (Nat.le_of_ble_eq_true rfl) hdep)) dX8_breaks_6 (fun hT z hz => wX8_needArgument (xnd F) (Nat.le_refl _) hT (a0 := a0) (a1 := v2) ha0 z hz) (fun m3 => ?_)
  refine xj_aload_n F 0 dX8_breaks_9 rfl ?_
  refine xj_getR F ha0 lgX8_61 dX8_breaks_10 (fun u4 hu4 => ?_)
  refine xj_aload_n F 0 dX8_breaks_13 rfl ?_
  refine xj_getR F ha0 lgX8_23 dX8_breaks_14 (fun u5 hu5 => ?_)
  refine xj_callVV (b := u4) (As := [.ref (xad G u5)]) (d' := 3) F hu4 lmX8_238 rfl rfl (Nat.le_of_ble_eq_true rfl) (xfit (Nat.le_trans (Nat.le_of_ble_eq_true rfl) hdep)) dX8_breaks_17 (fun hT z hz => wX7_spin (xnd F) (Nat.le_refl _) hT (a0 := u4) (a1 := u5) hu4 hu5 z hz) (fun m6 => ?_)
  refine xj_aload_n F 0 dX8_breaks_20 rfl ?_
  refine xj_getR F ha0 lgX8_61 dX8_breaks_21 (fun u7 hu7 => ?_)
  refine xj_aload_n F 0 dX8_breaks_24 rfl ?_
  refine xj_getR F ha0 lgX8_46 dX8_breaks_25 (fun u8 hu8 => ?_)
  refine xj_callVI (b := u7) (As := [.ref (xad G u8)]) (d' := 2) F hu7 lmX8_256 rfl rfl (Nat.le_of_ble_eq_true rfl) (xfit (Nat.le_trans (Nat.le_of_ble_eq_true rfl) hdep)) dX8_breaks_28 (fun hT z hz => wX7_countBroken (xnd F) (Nat.le_refl _) hT (a0 := u7) (a1 := u8) hu7 hu8 z hz) (fun v10 m9 => ?_)
  exact xj_ret F rfl dX8_breaks_31
set_option maxRecDepth 20000 in
set_option maxHeartbeats 4000000 in
theorem jX8_print_97 {G : XG} {l : Launch} {d : Nat} {X : XX} (F : xF (xE G d) G X mX8_print) (hdep : 205 ≤ d) {r8 : Nat → Int64 → Int32 → XM → Option (Int64 × XM)} (hr8 : ∀ (q0 : Nat) (x1 : Int64) (x3 : Int32) (m0 : XM), isa G q0 8 → xJ (xE G d) (xQ xrL G X mX8_print) G l X mX8_print 8 [(0, .ref (xad G q0)), (1, .long x1), (3, .int x3)] [] m0 (r8 q0 x1 x3 m0)) {r39 : Nat → Int64 → Int32 → Int32 → XM → Option (Int64 × XM)} (hr39 : ∀ (q0 : Nat) (x1 : Int64) (x3 : Int32) (x4 : Int32) (m0 : XM), isa G q0 8 → xJ (xE G d) (xQ xrL G X mX8_print) G l X mX8_print 39 [(0, .ref (xad G q0)), (1, .long x1), (3, .int x3), (4, .int x4)] [] m0 (r39 q0 x1 x3 x4 m0)) : ∀ (q0 : Nat) (x1 : Int64) (x3 : Int32) (x4 : Int32) (m0 : XM), isa G q0 8 → xJ (xE G d) (xQ xrL G X mX8_print) G l X mX8_print 97 [(0, .ref (xad G q0)), (1, .long x1), (3, .int x3), (4, .int x4)] [] m0 (fX8_print_97 (xln G) r8 r39 q0 x1 x3 x4 m0) := by
  intro q0 x1 x3 x4 m0 hq0
  unfold fX8_print_97
  refine xj_iinc F 3 1 (fun v1 => [(4, .int v1), (0, .ref (xad G q0)), (1, .long x1), (3, .int x3)]) dX8_print_97 rfl (by decide) (by decide) (fun _ => rfl) (fun v1 => ?_)
  refine xj_goto (tgt := 39) F dX8_print_100 (by decide) ?_
  refine xj_sub (lv' := [(0, .ref (xad G q0)), (1, .long x1), (3, .int x3), (4, .int v1)]) [1, 2, 3, 0] rfl ?_
  exact hr39 q0 x1 x3 v1 m0 hq0
set_option maxRecDepth 20000 in
set_option maxHeartbeats 4000000 in
theorem jX8_print_39 {G : XG} {l : Launch} {d : Nat} {X : XX} (F : xF (xE G d) G X mX8_print) (hdep : 205 ≤ d) {r8 : Nat → Int64 → Int32 → XM → Option (Int64 × XM)} (hr8 : ∀ (q0 : Nat) (x1 : Int64) (x3 : Int32) (m0 : XM), isa G q0 8 → xJ (xE G d) (xQ xrL G X mX8_print) G l X mX8_print 8 [(0, .ref (xad G q0)), (1, .long x1), (3, .int x3)] [] m0 (r8 q0 x1 x3 m0)) : ∀ (n : Nat) (q0 : Nat) (x1 : Int64) (x3 : Int32) (x4 : Int32) (m0 : XM), isa G q0 8 → xJ (xE G d) (xQ xrL G X mX8_print) G l X mX8_print 39 [(0, .ref (xad G q0)), (1, .long x1), (3, .int x3), (4, .int x4)] [] m0 (fX8_print_39 (xln G) r8 n q0 x1 x3 x4 m0) := by
  intro n
  induction n with
  | zero => intro q0 x1 x3 x4 m0 hq0; exact xj_none
  | succ n hr39 =>
    intro q0 x1 x3 x4 m0 hq0
    unfold fX8_print_39
    generalize hrg39 : (fun q0 x1 x3 x4 m0 => fX8_print_39 (xln G) r8 n q0 x1 x3 x4 m0) = r39
    have hr39 : ∀ (q0 : Nat) (x1 : Int64) (x3 : Int32) (x4 : Int32) (m0 : XM), isa G q0 8 → xJ (xE G d) (xQ xrL G X mX8_print) G l X mX8_print 39 [(0, .ref (xad G q0)), (1, .long x1), (3, .int x3), (4, .int x4)] [] m0 (r39 q0 x1 x3 x4 m0) := by
      subst hrg39
      exact hr39
    clear hrg39
    refine xj_eq (xv_eq _ _) ?_
    refine xj_iload F 3 dX8_print_39 rfl ?_
    refine xj_aload_n F 0 dX8_print_41 rfl ?_
    refine xj_getR F hq0 lgX8_23 dX8_print_42 (fun u1 hu1 => ?_)
    refine xj_getR F hu1 lgX8_145 dX8_print_45 (fun u2 hu2 => ?_)
    refine xj_iload_n F 2 dX8_print_48 rfl ?_
    refine xj_iald F hu2 dX8_print_49 (fun v3 => ?_)
    refine xj_icmp_ge (tgt := 103) F dX8_print_50 (by decide) ?_ ?_
    · refine xj_iinc F 2 1 (fun v4 => [(3, .int v4), (0, .ref (xad G q0)), (1, .long x1), (4, .int x4)]) dX8_print_103 rfl (by decide) (by decide) (fun _ => rfl) (fun v4 => ?_)
      refine xj_goto (tgt := 8) F dX8_print_106 (by decide) ?_
      refine xj_sub (lv' := [(0, .ref (xad G q0)), (1, .long x1), (3, .int v4)]) [1, 2, 0] rfl ?_
      exact hr8 q0 x1 v4 m0 hq0
    · refine xj_aload_n F 0 dX8_print_53 rfl ?_
      refine xj_getR F hq0 lgX8_23 dX8_print_54 (fun u5 hu5 => ?_)
      refine xj_iload_n F 2 dX8_print_57 rfl ?_
      refine xj_iload F 3 dX8_print_58 rfl ?_
      refine xj_callVI (b := u5) (As := [.int x3, .int x4]) (d' := 0) F hu5 lmX8_117 rfl rfl (Nat.le_of_ble_eq_true rfl) (xfit (Nat.le_trans (Nat.le_of_ble_eq_true rfl) hdep)) dX8_print_60 (fun hT z hz => wX6_memberAt (xnd F) (Nat.le_refl _) hT (a0 := u5) (a1 := x3) (a2 := x4) hu5 z hz) (fun v7 m6 => ?_)
      refine xj_istore (lv' := [(5, .int v7), (0, .ref (xad G q0)), (1, .long x1), (3, .int x3), (4, .int x4)]) F dX8_print_63 (by decide) rfl ?_
      refine xj_aload_n F 1 dX8_print_65 rfl ?_
      refine xj_getR F hq0 lgX8_23 dX8_print_66 (fun u8 hu8 => ?_)
      refine xj_getR F hu8 lgX8_151 dX8_print_69 (fun u9 hu9 => ?_)
      refine xj_iload F 0 dX8_print_72 rfl ?_
      refine xj_iald F hu9 dX8_print_74 (fun v10 => ?_)
      refine xj_iconst F 1 dX8_print_75 (by decide) ?_
      refine xj_icmp_ne (tgt := 97) F dX8_print_76 (by decide) ?_ ?_
      · refine xj_sub (lv' := [(0, .ref (xad G q0)), (1, .long x1), (3, .int x3), (4, .int x4)]) [1, 2, 3, 4] rfl ?_
        exact jX8_print_97 F hdep hr8 hr39 q0 x1 x3 x4 m6 hq0
      · refine xj_lload_n F 2 dX8_print_79 rfl ?_
        refine xj_ldc2 F lcX8_260 dX8_print_80 ?_
        refine xj_lmul F dX8_print_83 (fun w11 => ?_)
        refine xj_aload_n F 1 dX8_print_84 rfl ?_
        refine xj_getR F hq0 lgX8_39 dX8_print_85 (fun u12 hu12 => ?_)
        refine xj_getR F hu12 lgX8_184 dX8_print_88 (fun u13 hu13 => ?_)
        refine xj_iload F 0 dX8_print_91 rfl ?_
        refine xj_iald F hu13 dX8_print_93 (fun v14 => ?_)
        refine xj_i2l F dX8_print_94 (fun w15 => ?_)
        refine xj_ladd F dX8_print_95 (fun w16 => ?_)
        refine xj_lstore_n (lv' := [(1, .long w16), (5, .int v7), (0, .ref (xad G q0)), (3, .int x3), (4, .int x4)]) F dX8_print_96 (by decide) rfl ?_
        refine xj_sub (lv' := [(0, .ref (xad G q0)), (1, .long w16), (3, .int x3), (4, .int x4)]) [2, 0, 3, 4] rfl ?_
        exact jX8_print_97 F hdep hr8 hr39 q0 w16 x3 x4 m6 hq0
set_option maxRecDepth 20000 in
set_option maxHeartbeats 4000000 in
theorem jX8_print_8 {G : XG} {l : Launch} {d : Nat} {X : XX} (F : xF (xE G d) G X mX8_print) (hdep : 205 ≤ d) : ∀ (n : Nat) (q0 : Nat) (x1 : Int64) (x3 : Int32) (m0 : XM), isa G q0 8 → xJ (xE G d) (xQ xrL G X mX8_print) G l X mX8_print 8 [(0, .ref (xad G q0)), (1, .long x1), (3, .int x3)] [] m0 (fX8_print_8 (xln G) n q0 x1 x3 m0) := by
  intro n
  induction n with
  | zero => intro q0 x1 x3 m0 hq0; exact xj_none
  | succ n hr8 =>
    intro q0 x1 x3 m0 hq0
    unfold fX8_print_8
    generalize hrg8 : (fun q0 x1 x3 m0 => fX8_print_8 (xln G) n q0 x1 x3 m0) = r8
    have hr8 : ∀ (q0 : Nat) (x1 : Int64) (x3 : Int32) (m0 : XM), isa G q0 8 → xJ (xE G d) (xQ xrL G X mX8_print) G l X mX8_print 8 [(0, .ref (xad G q0)), (1, .long x1), (3, .int x3)] [] m0 (r8 q0 x1 x3 m0) := by
      subst hrg8
      exact hr8
    clear hrg8
    refine xj_eq (xv_eq _ _) ?_
    refine xj_iload_n F 2 dX8_print_8 rfl ?_
    refine xj_aload_n F 0 dX8_print_9 rfl ?_
    refine xj_getR F hq0 lgX8_23 dX8_print_10 (fun u1 hu1 => ?_)
    refine xj_get F hu1 lgX8_97 dX8_print_13 (fun v2 => ?_)
    refine xj_icmp_ge (tgt := 109) F dX8_print_16 (by decide) ?_ ?_
    · refine xj_lload_n F 1 dX8_print_109 rfl ?_
      exact xj_retL F rfl dX8_print_110
    · refine xj_lload_n F 1 dX8_print_19 rfl ?_
      refine xj_ldc2 F lcX8_260 dX8_print_20 ?_
      refine xj_lmul F dX8_print_23 (fun w3 => ?_)
      refine xj_aload_n F 0 dX8_print_24 rfl ?_
      refine xj_getR F hq0 lgX8_39 dX8_print_25 (fun u4 hu4 => ?_)
      refine xj_getR F hu4 lgX8_187 dX8_print_28 (fun u5 hu5 => ?_)
      refine xj_iload_n F 2 dX8_print_31 rfl ?_
      refine xj_iald F hu5 dX8_print_32 (fun v6 => ?_)
      refine xj_i2l F dX8_print_33 (fun w7 => ?_)
      refine xj_ladd F dX8_print_34 (fun w8 => ?_)
      refine xj_lstore_n (lv' := [(1, .long w8), (0, .ref (xad G q0)), (3, .int x3)]) F dX8_print_35 (by decide) rfl ?_
      refine xj_iconst F 0 dX8_print_36 (by decide) ?_
      refine xj_istore (lv' := [(4, .int 0), (1, .long w8), (0, .ref (xad G q0)), (3, .int x3)]) F dX8_print_37 (by decide) rfl ?_
      refine xj_sub (lv' := [(0, .ref (xad G q0)), (1, .long w8), (3, .int x3), (4, .int 0)]) [2, 1, 3, 0] rfl ?_
      exact jX8_print_39 F hdep hr8 XF q0 w8 x3 0 m0 hq0
set_option maxRecDepth 20000 in
set_option maxHeartbeats 4000000 in
theorem wX8_print {G : XG} {l : Launch} {d : Nat} (hn : xN G) (hdep : 205 ≤ d) {m0 : XM} (hT : xT G m0) {a0 : Nat} (ha0 : isa G a0 8) : ∀ z, fX8_print (xln G) a0 m0 = some z → xMet G l mX8_print d [.ref (xad G a0)] m0 (xrL z) := by
  refine xMet_of (by decide +kernel) hn hT (Nat.le_of_ble_eq_true rfl) (fun X F => ?_)
  refine xj_sub (lv' := [(0, .ref (xad G a0))]) [0] rfl ?_
  unfold fX8_print
  refine xj_aload_n F 0 dX8_print_0 rfl ?_
  refine xj_callVV (b := a0) (As := []) (d' := 204) F ha0 lmX8_164 rfl rfl (Nat.le_of_ble_eq_true rfl) (xfit (Nat.le_trans (Nat.le_of_ble_eq_true rfl) hdep)) dX8_print_1 (fun hT z hz => wX8_runPlain (xnd F) (Nat.le_refl _) hT (a0 := a0) ha0 z hz) (fun m1 => ?_)
  refine xj_lconst F 0 dX8_print_4 (by decide) ?_
  refine xj_lstore_n (lv' := [(1, .long 0), (0, .ref (xad G a0))]) F dX8_print_5 (by decide) rfl ?_
  refine xj_iconst F 0 dX8_print_6 (by decide) ?_
  refine xj_istore_n (lv' := [(3, .int 0), (1, .long 0), (0, .ref (xad G a0))]) F dX8_print_7 (by decide) rfl ?_
  refine xj_sub (lv' := [(0, .ref (xad G a0)), (1, .long 0), (3, .int 0)]) [2, 1, 0] rfl ?_
  exact jX8_print_8 F hdep XF a0 0 0 m1 ha0
set_option maxRecDepth 20000 in
set_option maxHeartbeats 4000000 in
theorem wX8_status {G : XG} {l : Launch} {d : Nat} (hn : xN G) (hdep : 0 ≤ d) {m0 : XM} (hT : xT G m0) {a0 : Nat} {a1 : Int32} (ha0 : isa G a0 8) : ∀ z, fX8_status (xln G) a0 a1 m0 = some z → xMet G l mX8_status d [.ref (xad G a0), .int a1] m0 (xrI z) := by
  refine xMet_of (by decide +kernel) hn hT (Nat.le_of_ble_eq_true rfl) (fun X F => ?_)
  refine xj_sub (lv' := [(0, .ref (xad G a0)), (1, .int a1)]) [0, 1] rfl ?_
  unfold fX8_status
  refine xj_iload_n F 1 dX8_status_0 rfl ?_
  refine xj_if_ne (tgt := 9) F dX8_status_1 (by decide) ?_ ?_
  · refine xj_iload_n F 1 dX8_status_9 rfl ?_
    refine xj_iconst F 1 dX8_status_10 (by decide) ?_
    refine xj_icmp_ne (tgt := 21) F dX8_status_11 (by decide) ?_ ?_
    · refine xj_iconst F (-1) dX8_status_21 (by decide) ?_
      exact xj_ret F rfl dX8_status_22
    · refine xj_aload_n F 0 dX8_status_14 rfl ?_
      refine xj_get F ha0 lgX8_265 dX8_status_15 (fun v1 => ?_)
      refine xj_goto (tgt := 22) F dX8_status_18 (by decide) ?_
      exact xj_ret F rfl dX8_status_22
  · refine xj_aload_n F 0 dX8_status_4 rfl ?_
    refine xj_get F ha0 lgX8_262 dX8_status_5 (fun v2 => ?_)
    exact xj_ret F rfl dX8_status_8
