set_option maxRecDepth 20000 in
set_option maxHeartbeats 4000000 in
theorem jX9_does_89 {G : XG} {l : Launch} {d : Nat} {X : XX} (F : xF (xE G d) G X mX9_does) (hdep : 2 ≤ d) {e : Nat} {R : Nat → Nat → Int32 → Int32 → XM → Option (Int32 × XM)} (hge : e + 1 + 1 ≤ d) (hR2 : ∀ {m0 : XM}, xT G m0 → ∀ {q : Nat}, isa G q 9 → ∀ (x0 x1 : Int32) (z : Int32 × XM), R 2 q x0 x1 m0 = some z → xMet G l mX9_acts (e + 1) [.ref (xad G q), .int x0] m0 (xrV z.2)) (hR3 : ∀ {m0 : XM}, xT G m0 → ∀ {q : Nat}, isa G q 9 → ∀ (x0 x1 : Int32) (z : Int32 × XM), R 3 q x0 x1 m0 = some z → xMet G l mX9_sumOf (e + 1) [.ref (xad G q), .int x0] m0 (xrI z)) : ∀ (q0 : Nat) (x2 : Int32) (m0 : XM), isa G q0 9 → xJ (xE G d) (xQ xrV G X mX9_does) G l X mX9_does 89 [(0, .ref (xad G q0)), (2, .int x2)] [] m0 (fX9_does_89 (xln G) R q0 x2 m0) := by
  intro q0 x2 m0 hq0
  unfold fX9_does_89
  refine xj_aload_n F 0 dX9_does_89 rfl ?_
  refine xj_aload_n F 0 dX9_does_90 rfl ?_
  refine xj_getR F hq0 lgX9_20 dX9_does_91 (fun u1 hu1 => ?_)
  refine xj_iload_n F 1 dX9_does_94 rfl ?_
  refine xj_iconst F 2 dX9_does_95 (by decide) ?_
  refine xj_callSI (As := [.ref (xad G u1), .int x2, .int 2]) (d' := 0) F lmX9_104 rfl rfl (Nat.le_of_ble_eq_true rfl) (xfit (Nat.le_trans (Nat.le_of_ble_eq_true rfl) hdep)) dX9_does_96 (fun hT z hz => wX9_ofMember (xnd F) (Nat.le_refl _) hT (a0 := u1) (a1 := x2) (a2 := 2) hu1 z hz) (fun v3 m2 => ?_)
  refine xj_callVV (b := q0) (As := [.int v3]) (d' := e + 1) F hq0 lmX9_337 rfl rfl (Nat.le_of_ble_eq_true rfl) (xfit hge) dX9_does_99 (fun hT => xvR (P := fun w => xMet G l mX9_acts (e + 1) (.ref (xad G q0) :: [.int v3]) _ w) (fun z hz => hR2 hT hq0 v3 0 z hz)) (fun m4 => ?_)
  exact xj_retV F rfl dX9_does_102
set_option maxRecDepth 20000 in
set_option maxHeartbeats 4000000 in
theorem jX9_does_79 {G : XG} {l : Launch} {d : Nat} {X : XX} (F : xF (xE G d) G X mX9_does) (hdep : 2 ≤ d) {e : Nat} {R : Nat → Nat → Int32 → Int32 → XM → Option (Int32 × XM)} (hge : e + 1 + 1 ≤ d) (hR2 : ∀ {m0 : XM}, xT G m0 → ∀ {q : Nat}, isa G q 9 → ∀ (x0 x1 : Int32) (z : Int32 × XM), R 2 q x0 x1 m0 = some z → xMet G l mX9_acts (e + 1) [.ref (xad G q), .int x0] m0 (xrV z.2)) (hR3 : ∀ {m0 : XM}, xT G m0 → ∀ {q : Nat}, isa G q 9 → ∀ (x0 x1 : Int32) (z : Int32 × XM), R 3 q x0 x1 m0 = some z → xMet G l mX9_sumOf (e + 1) [.ref (xad G q), .int x0] m0 (xrI z)) : ∀ (q0 : Nat) (x2 : Int32) (x3 : Int32) (m0 : XM), isa G q0 9 → xJ (xE G d) (xQ xrV G X mX9_does) G l X mX9_does 79 [(0, .ref (xad G q0)), (2, .int x2), (3, .int x3)] [] m0 (fX9_does_79 (xln G) R q0 x2 x3 m0) := by
  intro q0 x2 x3 m0 hq0
  unfold fX9_does_79
  refine xj_iload_n F 2 dX9_does_79 rfl ?_
  refine xj_iconst F 2 dX9_does_80 (by decide) ?_
  refine xj_icmp_eq (tgt := 89) F dX9_does_81 (by decide) ?_ ?_
  · refine xj_sub (lv' := [(0, .ref (xad G q0)), (2, .int x2)]) [0, 1] rfl ?_
    exact jX9_does_89 F hdep hge hR2 hR3 q0 x2 m0 hq0
  · refine xj_iload_n F 2 dX9_does_84 rfl ?_
    refine xj_iconst F 3 dX9_does_85 (by decide) ?_
    refine xj_icmp_ne (tgt := 102) F dX9_does_86 (by decide) ?_ ?_
    · exact xj_retV F rfl dX9_does_102
    · refine xj_sub (lv' := [(0, .ref (xad G q0)), (2, .int x2)]) [0, 1] rfl ?_
      exact jX9_does_89 F hdep hge hR2 hR3 q0 x2 m0 hq0
set_option maxRecDepth 20000 in
set_option maxHeartbeats 4000000 in
theorem wX9_does {G : XG} {l : Launch} {d : Nat} (hn : xN G) (hdep : 2 ≤ d) {e : Nat} {R : Nat → Nat → Int32 → Int32 → XM → Option (Int32 × XM)} (hge : e + 1 + 1 ≤ d) (hR2 : ∀ {m0 : XM}, xT G m0 → ∀ {q : Nat}, isa G q 9 → ∀ (x0 x1 : Int32) (z : Int32 × XM), R 2 q x0 x1 m0 = some z → xMet G l mX9_acts (e + 1) [.ref (xad G q), .int x0] m0 (xrV z.2)) (hR3 : ∀ {m0 : XM}, xT G m0 → ∀ {q : Nat}, isa G q 9 → ∀ (x0 x1 : Int32) (z : Int32 × XM), R 3 q x0 x1 m0 = some z → xMet G l mX9_sumOf (e + 1) [.ref (xad G q), .int x0] m0 (xrI z)) {m0 : XM} (hT : xT G m0) {a0 : Nat} {a1 : Int32} {a2 : Int32} (ha0 : isa G a0 9) : ∀ z, fX9_does (xln G) R a0 a1 a2 m0 = some z → xMet G l mX9_does d [.ref (xad G a0), .int a1, .int a2] m0 (xrV z) := by
  refine xMet_of (by decide +kernel) hn hT (Nat.le_of_ble_eq_true rfl) (fun X F => ?_)
  refine xj_sub (lv' := [(0, .ref (xad G a0)), (1, .int a1), (2, .int a2)]) [0, 1, 2] rfl ?_
  unfold fX9_does
  refine xj_aload_n F 0 dX9_does_0 rfl ?_
  refine xj_getR F ha0 lgX9_26 dX9_does_1 (fun u1 hu1 => ?_)
  refine xj_iload_n F 2 dX9_does_4 rfl ?_
  refine xj_zald F hu1 dX9_does_5 (fun v2 => ?_)
  refine xj_if_eq (tgt := 10) F dX9_does_6 (by decide) ?_ ?_
  · refine xj_aload_n F 0 dX9_does_10 rfl ?_
    refine xj_getR F ha0 lgX9_20 dX9_does_11 (fun u3 hu3 => ?_)
    refine xj_iload_n F 2 dX9_does_14 rfl ?_
    refine xj_iconst F 0 dX9_does_15 (by decide) ?_
    refine xj_callSI (As := [.ref (xad G u3), .int a2, .int 0]) (d' := 0) F lmX9_104 rfl rfl (Nat.le_of_ble_eq_true rfl) (xfit (Nat.le_trans (Nat.le_of_ble_eq_true rfl) hdep)) dX9_does_16 (fun hT z hz => wX9_ofMember (xnd F) (Nat.le_refl _) hT (a0 := u3) (a1 := a2) (a2 := 0) hu3 z hz) (fun v5 m4 => ?_)
    refine xj_istore_n (lv' := [(3, .int v5), (0, .ref (xad G a0)), (1, .int a1), (2, .int a2)]) F dX9_does_19 (by decide) rfl ?_
    refine xj_iload_n F 0 dX9_does_20 rfl ?_
    refine xj_iconst F 1 dX9_does_21 (by decide) ?_
    refine xj_icmp_ne (tgt := 79) F dX9_does_22 (by decide) ?_ ?_
    · refine xj_sub (lv' := [(0, .ref (xad G a0)), (2, .int a2), (3, .int v5)]) [1, 3, 0] rfl ?_
      exact jX9_does_79 F hdep hge hR2 hR3 a0 a2 v5 m4 ha0
    · refine xj_aload_n F 1 dX9_does_25 rfl ?_
      refine xj_getR F ha0 lgX9_20 dX9_does_26 (fun u6 hu6 => ?_)
      refine xj_iload_n F 3 dX9_does_29 rfl ?_
      refine xj_iconst F 2 dX9_does_30 (by decide) ?_
      refine xj_callSI (As := [.ref (xad G u6), .int a2, .int 2]) (d' := 0) F lmX9_104 rfl rfl (Nat.le_of_ble_eq_true rfl) (xfit (Nat.le_trans (Nat.le_of_ble_eq_true rfl) hdep)) dX9_does_31 (fun hT z hz => wX9_ofMember (xnd F) (Nat.le_refl _) hT (a0 := u6) (a1 := a2) (a2 := 2) hu6 z hz) (fun v8 m7 => ?_)
      refine xj_iconst F (-1) dX9_does_34 (by decide) ?_
      refine xj_icmp_eq (tgt := 79) F dX9_does_35 (by decide) ?_ ?_
      · refine xj_sub (lv' := [(0, .ref (xad G a0)), (2, .int a2), (3, .int v5)]) [1, 3, 0] rfl ?_
        exact jX9_does_79 F hdep hge hR2 hR3 a0 a2 v5 m7 ha0
      · refine xj_aload_n F 1 dX9_does_38 rfl ?_
        refine xj_aload_n F 1 dX9_does_39 rfl ?_
        refine xj_getR F ha0 lgX9_20 dX9_does_40 (fun u9 hu9 => ?_)
        refine xj_iload_n F 3 dX9_does_43 rfl ?_
        refine xj_iconst F 2 dX9_does_44 (by decide) ?_
        refine xj_callSI (As := [.ref (xad G u9), .int a2, .int 2]) (d' := 0) F lmX9_104 rfl rfl (Nat.le_of_ble_eq_true rfl) (xfit (Nat.le_trans (Nat.le_of_ble_eq_true rfl) hdep)) dX9_does_45 (fun hT z hz => wX9_ofMember (xnd F) (Nat.le_refl _) hT (a0 := u9) (a1 := a2) (a2 := 2) hu9 z hz) (fun v11 m10 => ?_)
        refine xj_callVI (b := a0) (As := [.int v11]) (d' := e + 1) F ha0 lmX9_334 rfl rfl (Nat.le_of_ble_eq_true rfl) (xfit hge) dX9_does_48 (fun hT z hz => hR3 hT ha0 v11 0 z hz) (fun v13 m12 => ?_)
        refine xj_istore (lv' := [(4, .int v13), (3, .int v5), (0, .ref (xad G a0)), (1, .int a1), (2, .int a2)]) F dX9_does_51 (by decide) rfl ?_
        refine xj_aload_n F 2 dX9_does_53 rfl ?_
        refine xj_get F ha0 lgX9_300 dX9_does_54 (fun v14 => ?_)
        refine xj_if_eq (tgt := 61) F dX9_does_57 (by decide) ?_ ?_
        · refine xj_aload_n F 2 dX9_does_61 rfl ?_
          refine xj_getR F ha0 lgX9_45 dX9_does_62 (fun u15 hu15 => ?_)
          refine xj_iload_n F 4 dX9_does_65 rfl ?_
          refine xj_iload F 0 dX9_does_66 rfl ?_
          refine xj_iast F hu15 dX9_does_68 (fun m16 => ?_)
          refine xj_aload_n F 2 dX9_does_69 rfl ?_
          refine xj_getR F ha0 lgX9_63 dX9_does_70 (fun u17 hu17 => ?_)
          refine xj_iload_n F 4 dX9_does_73 rfl ?_
          refine xj_iconst F 1 dX9_does_74 (by decide) ?_
          refine xj_zast F hu17 dX9_does_75 (fun m18 => ?_)
          refine xj_goto (tgt := 102) F dX9_does_76 (by decide) ?_
          exact xj_retV F rfl dX9_does_102
        · exact xj_retV F rfl dX9_does_60
  · exact xj_retV F rfl dX9_does_9
set_option maxRecDepth 20000 in
set_option maxHeartbeats 4000000 in
theorem jX9_acts_88 {G : XG} {l : Launch} {d : Nat} {X : XX} (F : xF (xE G d) G X mX9_acts) (hdep : 2 ≤ d) {e : Nat} {R : Nat → Nat → Int32 → Int32 → XM → Option (Int32 × XM)} (hge : e + 1 + 1 ≤ d) (hR0 : ∀ {m0 : XM}, xT G m0 → ∀ {q : Nat}, isa G q 9 → ∀ (x0 x1 : Int32) (z : Int32 × XM), R 0 q x0 x1 m0 = some z → xMet G l mX9_comesTo (e + 1) [.ref (xad G q), .int x0] m0 (xrV z.2)) (hR3 : ∀ {m0 : XM}, xT G m0 → ∀ {q : Nat}, isa G q 9 → ∀ (x0 x1 : Int32) (z : Int32 × XM), R 3 q x0 x1 m0 = some z → xMet G l mX9_sumOf (e + 1) [.ref (xad G q), .int x0] m0 (xrI z)) : ∀ (q0 : Nat) (x2 : Int32) (x4 : Int32) (m0 : XM), isa G q0 9 → xJ (xE G d) (xQ xrV G X mX9_acts) G l X mX9_acts 88 [(0, .ref (xad G q0)), (2, .int x2), (4, .int x4)] [] m0 (fX9_acts_88 (xln G) R q0 x2 x4 m0) := by
  intro q0 x2 x4 m0 hq0
  unfold fX9_acts_88
  refine xj_aload_n F 0 dX9_acts_88 rfl ?_
  refine xj_getR F hq0 lgX9_45 dX9_acts_89 (fun u1 hu1 => ?_)
  refine xj_iload F 2 dX9_acts_92 rfl ?_
  refine xj_iload_n F 1 dX9_acts_94 rfl ?_
  refine xj_iast F hu1 dX9_acts_95 (fun m2 => ?_)
  exact xj_retV F rfl dX9_acts_96
set_option maxRecDepth 20000 in
set_option maxHeartbeats 4000000 in
theorem wX9_acts {G : XG} {l : Launch} {d : Nat} (hn : xN G) (hdep : 2 ≤ d) {e : Nat} {R : Nat → Nat → Int32 → Int32 → XM → Option (Int32 × XM)} (hge : e + 1 + 1 ≤ d) (hR0 : ∀ {m0 : XM}, xT G m0 → ∀ {q : Nat}, isa G q 9 → ∀ (x0 x1 : Int32) (z : Int32 × XM), R 0 q x0 x1 m0 = some z → xMet G l mX9_comesTo (e + 1) [.ref (xad G q), .int x0] m0 (xrV z.2)) (hR3 : ∀ {m0 : XM}, xT G m0 → ∀ {q : Nat}, isa G q 9 → ∀ (x0 x1 : Int32) (z : Int32 × XM), R 3 q x0 x1 m0 = some z → xMet G l mX9_sumOf (e + 1) [.ref (xad G q), .int x0] m0 (xrI z)) {m0 : XM} (hT : xT G m0) {a0 : Nat} {a1 : Int32} (ha0 : isa G a0 9) : ∀ z, fX9_acts (xln G) R a0 a1 m0 = some z → xMet G l mX9_acts d [.ref (xad G a0), .int a1] m0 (xrV z) := by
  refine xMet_of (by decide +kernel) hn hT (Nat.le_of_ble_eq_true rfl) (fun X F => ?_)
  refine xj_sub (lv' := [(0, .ref (xad G a0)), (1, .int a1)]) [0, 1] rfl ?_
  unfold fX9_acts
  refine xj_aload_n F 0 dX9_acts_0 rfl ?_
  refine xj_aload_n F 0 dX9_acts_1 rfl ?_
  refine xj_getR F ha0 lgX9_20 dX9_acts_2 (fun u1 hu1 => ?_)
  refine xj_iload_n F 1 dX9_acts_5 rfl ?_
  refine xj_iconst F 2 dX9_acts_6 (by decide) ?_
  refine xj_callSI (As := [.ref (xad G u1), .int a1, .int 2]) (d' := 0) F lmX9_244 rfl rfl (Nat.le_of_ble_eq_true rfl) (xfit (Nat.le_trans (Nat.le_of_ble_eq_true rfl) hdep)) dX9_acts_7 (fun hT z hz => wX9_ofAct (xnd F) (Nat.le_refl _) hT (a0 := u1) (a1 := a1) (a2 := 2) hu1 z hz) (fun v3 m2 => ?_)
  refine xj_callVI (b := a0) (As := [.int v3]) (d' := e + 1) F ha0 lmX9_334 rfl rfl (Nat.le_of_ble_eq_true rfl) (xfit hge) dX9_acts_10 (fun hT z hz => hR3 hT ha0 v3 0 z hz) (fun v5 m4 => ?_)
  refine xj_istore_n (lv' := [(2, .int v5), (0, .ref (xad G a0)), (1, .int a1)]) F dX9_acts_13 (by decide) rfl ?_
  refine xj_aload_n F 1 dX9_acts_14 rfl ?_
  refine xj_getR F ha0 lgX9_20 dX9_acts_15 (fun u6 hu6 => ?_)
  refine xj_iload_n F 2 dX9_acts_18 rfl ?_
  refine xj_iconst F 0 dX9_acts_19 (by decide) ?_
  refine xj_callSI (As := [.ref (xad G u6), .int a1, .int 0]) (d' := 0) F lmX9_244 rfl rfl (Nat.le_of_ble_eq_true rfl) (xfit (Nat.le_trans (Nat.le_of_ble_eq_true rfl) hdep)) dX9_acts_20 (fun hT z hz => wX9_ofAct (xnd F) (Nat.le_refl _) hT (a0 := u6) (a1 := a1) (a2 := 0) hu6 z hz) (fun v8 m7 => ?_)
  refine xj_istore_n (lv' := [(3, .int v8), (2, .int v5), (0, .ref (xad G a0)), (1, .int a1)]) F dX9_acts_23 (by decide) rfl ?_
  refine xj_aload_n F 2 dX9_acts_24 rfl ?_
  refine xj_getR F ha0 lgX9_20 dX9_acts_25 (fun u9 hu9 => ?_)
  refine xj_iload_n F 3 dX9_acts_28 rfl ?_
  refine xj_iconst F 1 dX9_acts_29 (by decide) ?_
  refine xj_callSI (As := [.ref (xad G u9), .int a1, .int 1]) (d' := 0) F lmX9_244 rfl rfl (Nat.le_of_ble_eq_true rfl) (xfit (Nat.le_trans (Nat.le_of_ble_eq_true rfl) hdep)) dX9_acts_30 (fun hT z hz => wX9_ofAct (xnd F) (Nat.le_refl _) hT (a0 := u9) (a1 := a1) (a2 := 1) hu9 z hz) (fun v11 m10 => ?_)
  refine xj_istore (lv' := [(4, .int v11), (3, .int v8), (2, .int v5), (0, .ref (xad G a0)), (1, .int a1)]) F dX9_acts_33 (by decide) rfl ?_
  refine xj_aload_n F 3 dX9_acts_35 rfl ?_
  refine xj_get F ha0 lgX9_300 dX9_acts_36 (fun v12 => ?_)
  refine xj_if_ne (tgt := 47) F dX9_acts_39 (by decide) ?_ ?_
  · exact xj_retV F rfl dX9_acts_47
  · refine xj_iload_n F 1 dX9_acts_42 rfl ?_
    refine xj_iconst F (-1) dX9_acts_43 (by decide) ?_
    refine xj_icmp_ne (tgt := 48) F dX9_acts_44 (by decide) ?_ ?_
    · refine xj_aload_n F 3 dX9_acts_48 rfl ?_
      refine xj_iload_n F 1 dX9_acts_49 rfl ?_
      refine xj_callVV (b := a0) (As := [.int v8]) (d' := e + 1) F ha0 lmX9_328 rfl rfl (Nat.le_of_ble_eq_true rfl) (xfit hge) dX9_acts_50 (fun hT => xvR (P := fun w => xMet G l mX9_comesTo (e + 1) (.ref (xad G a0) :: [.int v8]) _ w) (fun z hz => hR0 hT ha0 v8 0 z hz)) (fun m13 => ?_)
      refine xj_aload_n F 3 dX9_acts_53 rfl ?_
      refine xj_get F ha0 lgX9_300 dX9_acts_54 (fun v14 => ?_)
      refine xj_if_ne (tgt := 67) F dX9_acts_57 (by decide) ?_ ?_
      · exact xj_retV F rfl dX9_acts_67
      · refine xj_aload_n F 3 dX9_acts_60 rfl ?_
        refine xj_callVI (b := a0) (As := []) (d' := 0) F ha0 lmX9_322 rfl rfl (Nat.le_of_ble_eq_true rfl) (xfit (Nat.le_trans (Nat.le_of_ble_eq_true rfl) hdep)) dX9_acts_61 (fun hT z hz => wX9_works (xnd F) (Nat.le_refl _) hT (a0 := a0) ha0 z hz) (fun v16 m15 => ?_)
        refine xj_if_ne (tgt := 68) F dX9_acts_64 (by decide) ?_ ?_
        · refine xj_aload_n F 3 dX9_acts_68 rfl ?_
          refine xj_iload_n F 1 dX9_acts_69 rfl ?_
          refine xj_iload F 0 dX9_acts_70 rfl ?_
          refine xj_callVI (b := a0) (As := [.int v8, .int v11]) (d' := 1) F ha0 lmX9_340 rfl rfl (Nat.le_of_ble_eq_true rfl) (xfit (Nat.le_trans (Nat.le_of_ble_eq_true rfl) hdep)) dX9_acts_72 (fun hT z hz => wX9_isEarly (xnd F) (Nat.le_refl _) hT (a0 := a0) (a1 := v8) (a2 := v11) ha0 z hz) (fun v18 m17 => ?_)
          refine xj_if_eq (tgt := 88) F dX9_acts_75 (by decide) ?_ ?_
          · refine xj_sub (lv' := [(0, .ref (xad G a0)), (2, .int v5), (4, .int v11)]) [3, 2, 0] rfl ?_
            exact jX9_acts_88 F hdep hge hR0 hR3 a0 v5 v11 m17 ha0
          · refine xj_aload_n F 3 dX9_acts_78 rfl ?_
            refine xj_dup F dX9_acts_79 rfl ?_
            refine xj_get F ha0 lgX9_343 dX9_acts_80 (fun v19 => ?_)
            refine xj_iconst F 1 dX9_acts_83 (by decide) ?_
            refine xj_iadd F dX9_acts_84 (fun v20 => ?_)
            refine xj_put F ha0 lpX9_343 dX9_acts_85 (fun m21 => ?_)
            refine xj_sub (lv' := [(0, .ref (xad G a0)), (2, .int v5), (4, .int v11)]) [3, 2, 0] rfl ?_
            exact jX9_acts_88 F hdep hge hR0 hR3 a0 v5 v11 m21 ha0
        · exact xj_retV F rfl dX9_acts_67
    · exact xj_retV F rfl dX9_acts_47
set_option maxRecDepth 20000 in
set_option maxHeartbeats 4000000 in
theorem jX9_sumOf_76 {G : XG} {l : Launch} {d : Nat} {X : XX} (F : xF (xE G d) G X mX9_sumOf) (hdep : 2 ≤ d) {e : Nat} {R : Nat → Nat → Int32 → Int32 → XM → Option (Int32 × XM)} (hge : e + 1 + 1 ≤ d) (hR4 : ∀ {m0 : XM}, xT G m0 → ∀ {q : Nat}, isa G q 9 → ∀ (x0 x1 : Int32) (z : Int32 × XM), R 4 q x0 x1 m0 = some z → xMet G l mX9_termOf (e + 1) [.ref (xad G q), .int x0] m0 (xrI z)) {r4 : Nat → Int32 → Int32 → Int32 → XM → Option (Int32 × XM)} (hr4 : ∀ (q0 : Nat) (x1 : Int32) (x2 : Int32) (x3 : Int32) (m0 : XM), isa G q0 9 → xJ (xE G d) (xQ xrI G X mX9_sumOf) G l X mX9_sumOf 4 [(0, .ref (xad G q0)), (1, .int x1), (2, .int x2), (3, .int x3)] [] m0 (r4 q0 x1 x2 x3 m0)) : ∀ (q0 : Nat) (x1 : Int32) (x3 : Int32) (s0 : Int32) (m0 : XM), isa G q0 9 → xJ (xE G d) (xQ xrI G X mX9_sumOf) G l X mX9_sumOf 76 [(0, .ref (xad G q0)), (1, .int x1), (3, .int x3)] [.int s0] m0 (fX9_sumOf_76 (xln G) R r4 q0 x1 x3 s0 m0) := by
  intro q0 x1 x3 s0 m0 hq0
  unfold fX9_sumOf_76
  refine xj_istore_n (lv' := [(2, .int s0), (0, .ref (xad G q0)), (1, .int x1), (3, .int x3)]) F dX9_sumOf_76 (by decide) rfl ?_
  refine xj_aload_n F 1 dX9_sumOf_77 rfl ?_
  refine xj_getR F hq0 lgX9_20 dX9_sumOf_78 (fun u1 hu1 => ?_)
  refine xj_iload_n F 3 dX9_sumOf_81 rfl ?_
  refine xj_iconst F 4 dX9_sumOf_82 (by decide) ?_
  refine xj_callSI (As := [.ref (xad G u1), .int x3, .int 4]) (d' := 0) F lmX9_254 rfl rfl (Nat.le_of_ble_eq_true rfl) (xfit (Nat.le_trans (Nat.le_of_ble_eq_true rfl) hdep)) dX9_sumOf_83 (fun hT z hz => wX9_ofTerm (xnd F) (Nat.le_refl _) hT (a0 := u1) (a1 := x3) (a2 := 4) hu1 z hz) (fun v3 m2 => ?_)
  refine xj_istore_n (lv' := [(3, .int v3), (2, .int s0), (0, .ref (xad G q0)), (1, .int x1)]) F dX9_sumOf_86 (by decide) rfl ?_
  refine xj_goto (tgt := 4) F dX9_sumOf_87 (by decide) ?_
  refine xj_sub (lv' := [(0, .ref (xad G q0)), (1, .int x1), (2, .int s0), (3, .int v3)]) [2, 3, 1, 0] rfl ?_
  exact hr4 q0 x1 s0 v3 m2 hq0
set_option maxRecDepth 20000 in
set_option maxHeartbeats 4000000 in
theorem jX9_sumOf_4 {G : XG} {l : Launch} {d : Nat} {X : XX} (F : xF (xE G d) G X mX9_sumOf) (hdep : 2 ≤ d) {e : Nat} {R : Nat → Nat → Int32 → Int32 → XM → Option (Int32 × XM)} (hge : e + 1 + 1 ≤ d) (hR4 : ∀ {m0 : XM}, xT G m0 → ∀ {q : Nat}, isa G q 9 → ∀ (x0 x1 : Int32) (z : Int32 × XM), R 4 q x0 x1 m0 = some z → xMet G l mX9_termOf (e + 1) [.ref (xad G q), .int x0] m0 (xrI z)) : ∀ (n : Nat) (q0 : Nat) (x1 : Int32) (x2 : Int32) (x3 : Int32) (m0 : XM), isa G q0 9 → xJ (xE G d) (xQ xrI G X mX9_sumOf) G l X mX9_sumOf 4 [(0, .ref (xad G q0)), (1, .int x1), (2, .int x2), (3, .int x3)] [] m0 (fX9_sumOf_4 (xln G) R n q0 x1 x2 x3 m0) := by
  intro n
  induction n with
  | zero => intro q0 x1 x2 x3 m0 hq0; exact xj_none
  | succ n hr4 =>
    intro q0 x1 x2 x3 m0 hq0
    unfold fX9_sumOf_4
    generalize hrg4 : (fun q0 x1 x2 x3 m0 => fX9_sumOf_4 (xln G) R n q0 x1 x2 x3 m0) = r4
    have hr4 : ∀ (q0 : Nat) (x1 : Int32) (x2 : Int32) (x3 : Int32) (m0 : XM), isa G q0 9 → xJ (xE G d) (xQ xrI G X mX9_sumOf) G l X mX9_sumOf 4 [(0, .ref (xad G q0)), (1, .int x1), (2, .int x2), (3, .int x3)] [] m0 (r4 q0 x1 x2 x3 m0) := by
      subst hrg4
      exact hr4
    clear hrg4
    refine xj_eq (xv_eq _ _) ?_
    refine xj_iload_n F 3 dX9_sumOf_4 rfl ?_
    refine xj_iconst F (-1) dX9_sumOf_5 (by decide) ?_
    refine xj_icmp_eq (tgt := 90) F dX9_sumOf_6 (by decide) ?_ ?_
    · refine xj_iload_n F 2 dX9_sumOf_90 rfl ?_
      exact xj_ret F rfl dX9_sumOf_91
    · refine xj_aload_n F 0 dX9_sumOf_9 rfl ?_
      refine xj_get F hq0 lgX9_300 dX9_sumOf_10 (fun v1 => ?_)
      refine xj_if_ne (tgt := 90) F dX9_sumOf_13 (by decide) ?_ ?_
      · refine xj_iload_n F 2 dX9_sumOf_90 rfl ?_
        exact xj_ret F rfl dX9_sumOf_91
      · refine xj_aload_n F 0 dX9_sumOf_16 rfl ?_
        refine xj_getR F hq0 lgX9_20 dX9_sumOf_17 (fun u2 hu2 => ?_)
        refine xj_iload_n F 3 dX9_sumOf_20 rfl ?_
        refine xj_iconst F 0 dX9_sumOf_21 (by decide) ?_
        refine xj_callSI (As := [.ref (xad G u2), .int x3, .int 0]) (d' := 0) F lmX9_254 rfl rfl (Nat.le_of_ble_eq_true rfl) (xfit (Nat.le_trans (Nat.le_of_ble_eq_true rfl) hdep)) dX9_sumOf_22 (fun hT z hz => wX9_ofTerm (xnd F) (Nat.le_refl _) hT (a0 := u2) (a1 := x3) (a2 := 0) hu2 z hz) (fun v4 m3 => ?_)
        refine xj_istore (lv' := [(4, .int v4), (0, .ref (xad G q0)), (1, .int x1), (2, .int x2), (3, .int x3)]) F dX9_sumOf_25 (by decide) rfl ?_
        refine xj_aload_n F 1 dX9_sumOf_27 rfl ?_
        refine xj_iload_n F 4 dX9_sumOf_28 rfl ?_
        refine xj_callVI (b := q0) (As := [.int x3]) (d' := e + 1) F hq0 lmX9_346 rfl rfl (Nat.le_of_ble_eq_true rfl) (xfit hge) dX9_sumOf_29 (fun hT z hz => hR4 hT hq0 x3 0 z hz) (fun v6 m5 => ?_)
        refine xj_istore (lv' := [(5, .int v6), (4, .int v4), (0, .ref (xad G q0)), (1, .int x1), (2, .int x2), (3, .int x3)]) F dX9_sumOf_32 (by decide) rfl ?_
        refine xj_iload_n F 5 dX9_sumOf_34 rfl ?_
        refine xj_iload_n F 3 dX9_sumOf_35 rfl ?_
        refine xj_icmp_ne (tgt := 44) F dX9_sumOf_36 (by decide) ?_ ?_
        · refine xj_iload F 1 dX9_sumOf_44 rfl ?_
          refine xj_bipush F 43 dX9_sumOf_46 (by decide) ?_
          refine xj_icmp_ne (tgt := 58) F dX9_sumOf_48 (by decide) ?_ ?_
          · refine xj_iload F 1 dX9_sumOf_58 rfl ?_
            refine xj_bipush F 45 dX9_sumOf_60 (by decide) ?_
            refine xj_icmp_ne (tgt := 72) F dX9_sumOf_62 (by decide) ?_ ?_
            · refine xj_iload_n F 4 dX9_sumOf_72 rfl ?_
              refine xj_iload F 0 dX9_sumOf_73 rfl ?_
              refine xj_imul F dX9_sumOf_75 (fun v7 => ?_)
              refine xj_sub (lv' := [(0, .ref (xad G q0)), (1, .int x1), (3, .int x3)]) [2, 3, 5] rfl ?_
              exact jX9_sumOf_76 F hdep hge hR4 hr4 q0 x1 x3 v7 m5 hq0
            · refine xj_iload_n F 4 dX9_sumOf_65 rfl ?_
              refine xj_iload F 0 dX9_sumOf_66 rfl ?_
              refine xj_isub F dX9_sumOf_68 (fun v8 => ?_)
              refine xj_goto (tgt := 76) F dX9_sumOf_69 (by decide) ?_
              refine xj_sub (lv' := [(0, .ref (xad G q0)), (1, .int x1), (3, .int x3)]) [2, 3, 5] rfl ?_
              exact jX9_sumOf_76 F hdep hge hR4 hr4 q0 x1 x3 v8 m5 hq0
          · refine xj_iload_n F 4 dX9_sumOf_51 rfl ?_
            refine xj_iload F 0 dX9_sumOf_52 rfl ?_
            refine xj_iadd F dX9_sumOf_54 (fun v9 => ?_)
            refine xj_goto (tgt := 76) F dX9_sumOf_55 (by decide) ?_
            refine xj_sub (lv' := [(0, .ref (xad G q0)), (1, .int x1), (3, .int x3)]) [2, 3, 5] rfl ?_
            exact jX9_sumOf_76 F hdep hge hR4 hr4 q0 x1 x3 v9 m5 hq0
        · refine xj_iload F 0 dX9_sumOf_39 rfl ?_
          refine xj_goto (tgt := 76) F dX9_sumOf_41 (by decide) ?_
          refine xj_sub (lv' := [(0, .ref (xad G q0)), (1, .int x1), (3, .int x3)]) [2, 3, 5] rfl ?_
          exact jX9_sumOf_76 F hdep hge hR4 hr4 q0 x1 x3 v6 m5 hq0
set_option maxRecDepth 20000 in
set_option maxHeartbeats 4000000 in
theorem wX9_sumOf {G : XG} {l : Launch} {d : Nat} (hn : xN G) (hdep : 2 ≤ d) {e : Nat} {R : Nat → Nat → Int32 → Int32 → XM → Option (Int32 × XM)} (hge : e + 1 + 1 ≤ d) (hR4 : ∀ {m0 : XM}, xT G m0 → ∀ {q : Nat}, isa G q 9 → ∀ (x0 x1 : Int32) (z : Int32 × XM), R 4 q x0 x1 m0 = some z → xMet G l mX9_termOf (e + 1) [.ref (xad G q), .int x0] m0 (xrI z)) {m0 : XM} (hT : xT G m0) {a0 : Nat} {a1 : Int32} (ha0 : isa G a0 9) : ∀ z, fX9_sumOf (xln G) R a0 a1 m0 = some z → xMet G l mX9_sumOf d [.ref (xad G a0), .int a1] m0 (xrI z) := by
  refine xMet_of (by decide +kernel) hn hT (Nat.le_of_ble_eq_true rfl) (fun X F => ?_)
  refine xj_sub (lv' := [(0, .ref (xad G a0)), (1, .int a1)]) [0, 1] rfl ?_
  unfold fX9_sumOf
  refine xj_iconst F 0 dX9_sumOf_0 (by decide) ?_
  refine xj_istore_n (lv' := [(2, .int 0), (0, .ref (xad G a0)), (1, .int a1)]) F dX9_sumOf_1 (by decide) rfl ?_
  refine xj_iload_n F 2 dX9_sumOf_2 rfl ?_
  refine xj_istore_n (lv' := [(3, .int a1), (2, .int 0), (0, .ref (xad G a0)), (1, .int a1)]) F dX9_sumOf_3 (by decide) rfl ?_
  refine xj_sub (lv' := [(0, .ref (xad G a0)), (1, .int a1), (2, .int 0), (3, .int a1)]) [2, 3, 1, 0] rfl ?_
  exact jX9_sumOf_4 F hdep hge hR4 XF a0 a1 0 a1 m0 ha0
set_option maxRecDepth 20000 in
set_option maxHeartbeats 4000000 in
theorem jX9_termOf_138 {G : XG} {l : Launch} {d : Nat} {X : XX} (F : xF (xE G d) G X mX9_termOf) (hdep : 2 ≤ d) {e : Nat} {R : Nat → Nat → Int32 → Int32 → XM → Option (Int32 × XM)} (hge : e + 1 + 1 ≤ d) (hR0 : ∀ {m0 : XM}, xT G m0 → ∀ {q : Nat}, isa G q 9 → ∀ (x0 x1 : Int32) (z : Int32 × XM), R 0 q x0 x1 m0 = some z → xMet G l mX9_comesTo (e + 1) [.ref (xad G q), .int x0] m0 (xrV z.2)) (hR3 : ∀ {m0 : XM}, xT G m0 → ∀ {q : Nat}, isa G q 9 → ∀ (x0 x1 : Int32) (z : Int32 × XM), R 3 q x0 x1 m0 = some z → xMet G l mX9_sumOf (e + 1) [.ref (xad G q), .int x0] m0 (xrI z)) (hR5 : ∀ {m0 : XM}, xT G m0 → ∀ {q : Nat}, isa G q 9 → ∀ (x0 x1 : Int32) (z : Int32 × XM), R 5 q x0 x1 m0 = some z → xMet G l mX9_calls (e + 1) [.ref (xad G q), .int x0, .int x1] m0 (xrI z)) : ∀ (q0 : Nat) (x4 : Int32) (m0 : XM), isa G q0 9 → xJ (xE G d) (xQ xrI G X mX9_termOf) G l X mX9_termOf 138 [(0, .ref (xad G q0)), (4, .int x4)] [] m0 (fX9_termOf_138 (xln G) R q0 x4 m0) := by
  intro q0 x4 m0 hq0
  unfold fX9_termOf_138
  refine xj_aload_n F 0 dX9_termOf_138 rfl ?_
  refine xj_getR F hq0 lgX9_45 dX9_termOf_139 (fun u1 hu1 => ?_)
  refine xj_iload F 1 dX9_termOf_142 rfl ?_
  refine xj_iald F hu1 dX9_termOf_144 (fun v2 => ?_)
  exact xj_ret F rfl dX9_termOf_145
set_option maxRecDepth 20000 in
set_option maxHeartbeats 4000000 in
theorem wX9_termOf {G : XG} {l : Launch} {d : Nat} (hn : xN G) (hdep : 2 ≤ d) {e : Nat} {R : Nat → Nat → Int32 → Int32 → XM → Option (Int32 × XM)} (hge : e + 1 + 1 ≤ d) (hR0 : ∀ {m0 : XM}, xT G m0 → ∀ {q : Nat}, isa G q 9 → ∀ (x0 x1 : Int32) (z : Int32 × XM), R 0 q x0 x1 m0 = some z → xMet G l mX9_comesTo (e + 1) [.ref (xad G q), .int x0] m0 (xrV z.2)) (hR3 : ∀ {m0 : XM}, xT G m0 → ∀ {q : Nat}, isa G q 9 → ∀ (x0 x1 : Int32) (z : Int32 × XM), R 3 q x0 x1 m0 = some z → xMet G l mX9_sumOf (e + 1) [.ref (xad G q), .int x0] m0 (xrI z)) (hR5 : ∀ {m0 : XM}, xT G m0 → ∀ {q : Nat}, isa G q 9 → ∀ (x0 x1 : Int32) (z : Int32 × XM), R 5 q x0 x1 m0 = some z → xMet G l mX9_calls (e + 1) [.ref (xad G q), .int x0, .int x1] m0 (xrI z)) {m0 : XM} (hT : xT G m0) {a0 : Nat} {a1 : Int32} (ha0 : isa G a0 9) : ∀ z, fX9_termOf (xln G) R a0 a1 m0 = some z → xMet G l mX9_termOf d [.ref (xad G a0), .int a1] m0 (xrI z) := by
  refine xMet_of (by decide +kernel) hn hT (Nat.le_of_ble_eq_true rfl) (fun X F => ?_)
  refine xj_sub (lv' := [(0, .ref (xad G a0)), (1, .int a1)]) [0, 1] rfl ?_
  unfold fX9_termOf
  refine xj_aload_n F 0 dX9_termOf_0 rfl ?_
  refine xj_getR F ha0 lgX9_20 dX9_termOf_1 (fun u1 hu1 => ?_)
  refine xj_iload_n F 1 dX9_termOf_4 rfl ?_
  refine xj_iconst F 1 dX9_termOf_5 (by decide) ?_
  refine xj_callSI (As := [.ref (xad G u1), .int a1, .int 1]) (d' := 0) F lmX9_254 rfl rfl (Nat.le_of_ble_eq_true rfl) (xfit (Nat.le_trans (Nat.le_of_ble_eq_true rfl) hdep)) dX9_termOf_6 (fun hT z hz => wX9_ofTerm (xnd F) (Nat.le_refl _) hT (a0 := u1) (a1 := a1) (a2 := 1) hu1 z hz) (fun v3 m2 => ?_)
  refine xj_istore_n (lv' := [(2, .int v3), (0, .ref (xad G a0)), (1, .int a1)]) F dX9_termOf_9 (by decide) rfl ?_
  refine xj_aload_n F 1 dX9_termOf_10 rfl ?_
  refine xj_getR F ha0 lgX9_20 dX9_termOf_11 (fun u4 hu4 => ?_)
  refine xj_iload_n F 2 dX9_termOf_14 rfl ?_
  refine xj_iconst F 2 dX9_termOf_15 (by decide) ?_
  refine xj_callSI (As := [.ref (xad G u4), .int a1, .int 2]) (d' := 0) F lmX9_254 rfl rfl (Nat.le_of_ble_eq_true rfl) (xfit (Nat.le_trans (Nat.le_of_ble_eq_true rfl) hdep)) dX9_termOf_16 (fun hT z hz => wX9_ofTerm (xnd F) (Nat.le_refl _) hT (a0 := u4) (a1 := a1) (a2 := 2) hu4 z hz) (fun v6 m5 => ?_)
  refine xj_istore_n (lv' := [(3, .int v6), (2, .int v3), (0, .ref (xad G a0)), (1, .int a1)]) F dX9_termOf_19 (by decide) rfl ?_
  refine xj_aload_n F 2 dX9_termOf_20 rfl ?_
  refine xj_getR F ha0 lgX9_20 dX9_termOf_21 (fun u7 hu7 => ?_)
  refine xj_iload_n F 3 dX9_termOf_24 rfl ?_
  refine xj_iconst F 3 dX9_termOf_25 (by decide) ?_
  refine xj_callSI (As := [.ref (xad G u7), .int a1, .int 3]) (d' := 0) F lmX9_254 rfl rfl (Nat.le_of_ble_eq_true rfl) (xfit (Nat.le_trans (Nat.le_of_ble_eq_true rfl) hdep)) dX9_termOf_26 (fun hT z hz => wX9_ofTerm (xnd F) (Nat.le_refl _) hT (a0 := u7) (a1 := a1) (a2 := 3) hu7 z hz) (fun v9 m8 => ?_)
  refine xj_istore (lv' := [(4, .int v9), (3, .int v6), (2, .int v3), (0, .ref (xad G a0)), (1, .int a1)]) F dX9_termOf_29 (by decide) rfl ?_
  refine xj_iload_n F 2 dX9_termOf_31 rfl ?_
  refine xj_iconst F 4 dX9_termOf_32 (by decide) ?_
  refine xj_icmp_ne (tgt := 42) F dX9_termOf_33 (by decide) ?_ ?_
  · refine xj_aload_n F 3 dX9_termOf_42 rfl ?_
    refine xj_callVI (b := a0) (As := []) (d' := 0) F ha0 lmX9_322 rfl rfl (Nat.le_of_ble_eq_true rfl) (xfit (Nat.le_trans (Nat.le_of_ble_eq_true rfl) hdep)) dX9_termOf_43 (fun hT z hz => wX9_works (xnd F) (Nat.le_refl _) hT (a0 := a0) ha0 z hz) (fun v11 m10 => ?_)
    refine xj_if_ne (tgt := 51) F dX9_termOf_46 (by decide) ?_ ?_
    · refine xj_iload_n F 2 dX9_termOf_51 rfl ?_
      refine xj_if_ne (tgt := 57) F dX9_termOf_52 (by decide) ?_ ?_
      · refine xj_iload_n F 2 dX9_termOf_57 rfl ?_
        refine xj_iconst F 3 dX9_termOf_58 (by decide) ?_
        refine xj_icmp_ne (tgt := 70) F dX9_termOf_59 (by decide) ?_ ?_
        · refine xj_aload_n F 3 dX9_termOf_70 rfl ?_
          refine xj_getR F ha0 lgX9_20 dX9_termOf_71 (fun u12 hu12 => ?_)
          refine xj_iload F 0 dX9_termOf_74 rfl ?_
          refine xj_iconst F 0 dX9_termOf_76 (by decide) ?_
          refine xj_callSI (As := [.ref (xad G u12), .int v9, .int 0]) (d' := 0) F lmX9_104 rfl rfl (Nat.le_of_ble_eq_true rfl) (xfit (Nat.le_trans (Nat.le_of_ble_eq_true rfl) hdep)) dX9_termOf_77 (fun hT z hz => wX9_ofMember (xnd F) (Nat.le_refl _) hT (a0 := u12) (a1 := v9) (a2 := 0) hu12 z hz) (fun v14 m13 => ?_)
          refine xj_if_ne (tgt := 94) F dX9_termOf_80 (by decide) ?_ ?_
          · refine xj_aload_n F 3 dX9_termOf_94 rfl ?_
            refine xj_iload_n F 1 dX9_termOf_95 rfl ?_
            refine xj_callVV (b := a0) (As := [.int v6]) (d' := e + 1) F ha0 lmX9_328 rfl rfl (Nat.le_of_ble_eq_true rfl) (xfit hge) dX9_termOf_96 (fun hT => xvR (P := fun w => xMet G l mX9_comesTo (e + 1) (.ref (xad G a0) :: [.int v6]) _ w) (fun z hz => hR0 hT ha0 v6 0 z hz)) (fun m15 => ?_)
            refine xj_aload_n F 3 dX9_termOf_99 rfl ?_
            refine xj_get F ha0 lgX9_300 dX9_termOf_100 (fun v16 => ?_)
            refine xj_if_eq (tgt := 108) F dX9_termOf_103 (by decide) ?_ ?_
            · refine xj_iload_n F 2 dX9_termOf_108 rfl ?_
              refine xj_iconst F 2 dX9_termOf_109 (by decide) ?_
              refine xj_icmp_ne (tgt := 121) F dX9_termOf_110 (by decide) ?_ ?_
              · refine xj_aload_n F 3 dX9_termOf_121 rfl ?_
                refine xj_iload_n F 1 dX9_termOf_122 rfl ?_
                refine xj_iload F 0 dX9_termOf_123 rfl ?_
                refine xj_callVI (b := a0) (As := [.int v6, .int v9]) (d' := 1) F ha0 lmX9_340 rfl rfl (Nat.le_of_ble_eq_true rfl) (xfit (Nat.le_trans (Nat.le_of_ble_eq_true rfl) hdep)) dX9_termOf_125 (fun hT z hz => wX9_isEarly (xnd F) (Nat.le_refl _) hT (a0 := a0) (a1 := v6) (a2 := v9) ha0 z hz) (fun v18 m17 => ?_)
                refine xj_if_eq (tgt := 138) F dX9_termOf_128 (by decide) ?_ ?_
                · refine xj_sub (lv' := [(0, .ref (xad G a0)), (4, .int v9)]) [3, 0] rfl ?_
                  exact jX9_termOf_138 F hdep hge hR0 hR3 hR5 a0 v9 m17 ha0
                · refine xj_aload_n F 3 dX9_termOf_131 rfl ?_
                  refine xj_iload_n F 1 dX9_termOf_132 rfl ?_
                  refine xj_iload F 0 dX9_termOf_133 rfl ?_
                  refine xj_callVV (b := a0) (As := [.int v6, .int v9]) (d' := 1) F ha0 lmX9_352 rfl rfl (Nat.le_of_ble_eq_true rfl) (xfit (Nat.le_trans (Nat.le_of_ble_eq_true rfl) hdep)) dX9_termOf_135 (fun hT z hz => wX9_notes (xnd F) (Nat.le_refl _) hT (a0 := a0) (a1 := v6) (a2 := v9) ha0 z hz) (fun m19 => ?_)
                  refine xj_sub (lv' := [(0, .ref (xad G a0)), (4, .int v9)]) [3, 0] rfl ?_
                  exact jX9_termOf_138 F hdep hge hR0 hR3 hR5 a0 v9 m19 ha0
              · refine xj_aload_n F 3 dX9_termOf_113 rfl ?_
                refine xj_iload_n F 1 dX9_termOf_114 rfl ?_
                refine xj_iload F 0 dX9_termOf_115 rfl ?_
                refine xj_callVI (b := a0) (As := [.int v6, .int v9]) (d' := e + 1) F ha0 lmX9_349 rfl rfl (Nat.le_of_ble_eq_true rfl) (xfit hge) dX9_termOf_117 (fun hT z hz => hR5 hT ha0 v6 v9 z hz) (fun v21 m20 => ?_)
                exact xj_ret F rfl dX9_termOf_120
            · refine xj_iconst F 0 dX9_termOf_106 (by decide) ?_
              exact xj_ret F rfl dX9_termOf_107
          · refine xj_aload_n F 3 dX9_termOf_83 rfl ?_
            refine xj_getR F ha0 lgX9_20 dX9_termOf_84 (fun u22 hu22 => ?_)
            refine xj_iload F 0 dX9_termOf_87 rfl ?_
            refine xj_iconst F 2 dX9_termOf_89 (by decide) ?_
            refine xj_callSI (As := [.ref (xad G u22), .int v9, .int 2]) (d' := 0) F lmX9_104 rfl rfl (Nat.le_of_ble_eq_true rfl) (xfit (Nat.le_trans (Nat.le_of_ble_eq_true rfl) hdep)) dX9_termOf_90 (fun hT z hz => wX9_ofMember (xnd F) (Nat.le_refl _) hT (a0 := u22) (a1 := v9) (a2 := 2) hu22 z hz) (fun v24 m23 => ?_)
            exact xj_ret F rfl dX9_termOf_93
        · refine xj_aload_n F 3 dX9_termOf_62 rfl ?_
          refine xj_iconst F 1 dX9_termOf_63 (by decide) ?_
          refine xj_iconst F (-1) dX9_termOf_64 (by decide) ?_
          refine xj_callVV (b := a0) (As := [.int 1, .int (-1)]) (d' := 0) F ha0 lmX9_315 rfl rfl (Nat.le_of_ble_eq_true rfl) (xfit (Nat.le_trans (Nat.le_of_ble_eq_true rfl) hdep)) dX9_termOf_65 (fun hT z hz => wX9_fails (xnd F) (Nat.le_refl _) hT (a0 := a0) (a1 := 1) (a2 := (-1)) ha0 z hz) (fun m25 => ?_)
          refine xj_iconst F 0 dX9_termOf_68 (by decide) ?_
          exact xj_ret F rfl dX9_termOf_69
      · refine xj_iload_n F 1 dX9_termOf_55 rfl ?_
        exact xj_ret F rfl dX9_termOf_56
    · refine xj_iconst F 0 dX9_termOf_49 (by decide) ?_
      exact xj_ret F rfl dX9_termOf_50
  · refine xj_aload_n F 3 dX9_termOf_36 rfl ?_
    refine xj_iload_n F 1 dX9_termOf_37 rfl ?_
    refine xj_callVI (b := a0) (As := [.int v6]) (d' := e + 1) F ha0 lmX9_334 rfl rfl (Nat.le_of_ble_eq_true rfl) (xfit hge) dX9_termOf_38 (fun hT z hz => hR3 hT ha0 v6 0 z hz) (fun v27 m26 => ?_)
    exact xj_ret F rfl dX9_termOf_41
set_option maxRecDepth 20000 in
set_option maxHeartbeats 4000000 in
theorem jX9_calls_86 {G : XG} {l : Launch} {d : Nat} {X : XX} (F : xF (xE G d) G X mX9_calls) (hdep : 2 ≤ d) {e : Nat} {R : Nat → Nat → Int32 → Int32 → XM → Option (Int32 × XM)} (hge : e + 1 + 1 ≤ d) (hR2 : ∀ {m0 : XM}, xT G m0 → ∀ {q : Nat}, isa G q 9 → ∀ (x0 x1 : Int32) (z : Int32 × XM), R 2 q x0 x1 m0 = some z → xMet G l mX9_acts (e + 1) [.ref (xad G q), .int x0] m0 (xrV z.2)) (hR3 : ∀ {m0 : XM}, xT G m0 → ∀ {q : Nat}, isa G q 9 → ∀ (x0 x1 : Int32) (z : Int32 × XM), R 3 q x0 x1 m0 = some z → xMet G l mX9_sumOf (e + 1) [.ref (xad G q), .int x0] m0 (xrI z)) : ∀ (q0 : Nat) (s0 : Int32) (m0 : XM), isa G q0 9 → xJ (xE G d) (xQ xrI G X mX9_calls) G l X mX9_calls 86 [(0, .ref (xad G q0))] [.int s0] m0 (fX9_calls_86 (xln G) R q0 s0 m0) := by
  intro q0 s0 m0 hq0
  unfold fX9_calls_86
  refine xj_istore_n (lv' := [(3, .int s0), (0, .ref (xad G q0))]) F dX9_calls_86 (by decide) rfl ?_
  refine xj_aload_n F 1 dX9_calls_87 rfl ?_
  refine xj_get F hq0 lgX9_300 dX9_calls_88 (fun v1 => ?_)
  refine xj_iconst F 2 dX9_calls_91 (by decide) ?_
  refine xj_icmp_eq (tgt := 105) F dX9_calls_92 (by decide) ?_ ?_
  · refine xj_iload_n F 0 dX9_calls_105 rfl ?_
    exact xj_ret F rfl dX9_calls_106
  · refine xj_aload_n F 1 dX9_calls_95 rfl ?_
    refine xj_dup F dX9_calls_96 rfl ?_
    refine xj_get F hq0 lgX9_303 dX9_calls_97 (fun v2 => ?_)
    refine xj_iconst F 1 dX9_calls_100 (by decide) ?_
    refine xj_isub F dX9_calls_101 (fun v3 => ?_)
    refine xj_put F hq0 lpX9_303 dX9_calls_102 (fun m4 => ?_)
    refine xj_iload_n F 0 dX9_calls_105 rfl ?_
    exact xj_ret F rfl dX9_calls_106
set_option maxRecDepth 20000 in
set_option maxHeartbeats 4000000 in
theorem jX9_calls_62 {G : XG} {l : Launch} {d : Nat} {X : XX} (F : xF (xE G d) G X mX9_calls) (hdep : 2 ≤ d) {e : Nat} {R : Nat → Nat → Int32 → Int32 → XM → Option (Int32 × XM)} (hge : e + 1 + 1 ≤ d) (hR2 : ∀ {m0 : XM}, xT G m0 → ∀ {q : Nat}, isa G q 9 → ∀ (x0 x1 : Int32) (z : Int32 × XM), R 2 q x0 x1 m0 = some z → xMet G l mX9_acts (e + 1) [.ref (xad G q), .int x0] m0 (xrV z.2)) (hR3 : ∀ {m0 : XM}, xT G m0 → ∀ {q : Nat}, isa G q 9 → ∀ (x0 x1 : Int32) (z : Int32 × XM), R 3 q x0 x1 m0 = some z → xMet G l mX9_sumOf (e + 1) [.ref (xad G q), .int x0] m0 (xrI z)) : ∀ (q0 : Nat) (x2 : Int32) (m0 : XM), isa G q0 9 → xJ (xE G d) (xQ xrI G X mX9_calls) G l X mX9_calls 62 [(0, .ref (xad G q0)), (2, .int x2)] [] m0 (fX9_calls_62 (xln G) R q0 x2 m0) := by
  intro q0 x2 m0 hq0
  unfold fX9_calls_62
  refine xj_aload_n F 0 dX9_calls_62 rfl ?_
  refine xj_get F hq0 lgX9_300 dX9_calls_63 (fun v1 => ?_)
  refine xj_if_ne (tgt := 85) F dX9_calls_66 (by decide) ?_ ?_
  · refine xj_iconst F 0 dX9_calls_85 (by decide) ?_
    refine xj_sub (lv' := [(0, .ref (xad G q0))]) [0] rfl ?_
    exact jX9_calls_86 F hdep hge hR2 hR3 q0 0 m0 hq0
  · refine xj_aload_n F 0 dX9_calls_69 rfl ?_
    refine xj_aload_n F 0 dX9_calls_70 rfl ?_
    refine xj_getR F hq0 lgX9_20 dX9_calls_71 (fun u2 hu2 => ?_)
    refine xj_iload_n F 1 dX9_calls_74 rfl ?_
    refine xj_iconst F 2 dX9_calls_75 (by decide) ?_
    refine xj_callSI (As := [.ref (xad G u2), .int x2, .int 2]) (d' := 0) F lmX9_104 rfl rfl (Nat.le_of_ble_eq_true rfl) (xfit (Nat.le_trans (Nat.le_of_ble_eq_true rfl) hdep)) dX9_calls_76 (fun hT z hz => wX9_ofMember (xnd F) (Nat.le_refl _) hT (a0 := u2) (a1 := x2) (a2 := 2) hu2 z hz) (fun v4 m3 => ?_)
    refine xj_callVI (b := q0) (As := [.int v4]) (d' := e + 1) F hq0 lmX9_334 rfl rfl (Nat.le_of_ble_eq_true rfl) (xfit hge) dX9_calls_79 (fun hT z hz => hR3 hT hq0 v4 0 z hz) (fun v6 m5 => ?_)
    refine xj_goto (tgt := 86) F dX9_calls_82 (by decide) ?_
    refine xj_sub (lv' := [(0, .ref (xad G q0))]) [0] rfl ?_
    exact jX9_calls_86 F hdep hge hR2 hR3 q0 v6 m5 hq0
set_option maxRecDepth 20000 in
set_option maxHeartbeats 4000000 in
theorem jX9_calls_21 {G : XG} {l : Launch} {d : Nat} {X : XX} (F : xF (xE G d) G X mX9_calls) (hdep : 2 ≤ d) {e : Nat} {R : Nat → Nat → Int32 → Int32 → XM → Option (Int32 × XM)} (hge : e + 1 + 1 ≤ d) (hR2 : ∀ {m0 : XM}, xT G m0 → ∀ {q : Nat}, isa G q 9 → ∀ (x0 x1 : Int32) (z : Int32 × XM), R 2 q x0 x1 m0 = some z → xMet G l mX9_acts (e + 1) [.ref (xad G q), .int x0] m0 (xrV z.2)) (hR3 : ∀ {m0 : XM}, xT G m0 → ∀ {q : Nat}, isa G q 9 → ∀ (x0 x1 : Int32) (z : Int32 × XM), R 3 q x0 x1 m0 = some z → xMet G l mX9_sumOf (e + 1) [.ref (xad G q), .int x0] m0 (xrI z)) : ∀ (n : Nat) (q0 : Nat) (x2 : Int32) (x3 : Int32) (m0 : XM), isa G q0 9 → xJ (xE G d) (xQ xrI G X mX9_calls) G l X mX9_calls 21 [(0, .ref (xad G q0)), (2, .int x2), (3, .int x3)] [] m0 (fX9_calls_21 (xln G) R n q0 x2 x3 m0) := by
  intro n
  induction n with
  | zero => intro q0 x2 x3 m0 hq0; exact xj_none
  | succ n hr21 =>
    intro q0 x2 x3 m0 hq0
    unfold fX9_calls_21
    generalize hrg21 : (fun q0 x2 x3 m0 => fX9_calls_21 (xln G) R n q0 x2 x3 m0) = r21
    have hr21 : ∀ (q0 : Nat) (x2 : Int32) (x3 : Int32) (m0 : XM), isa G q0 9 → xJ (xE G d) (xQ xrI G X mX9_calls) G l X mX9_calls 21 [(0, .ref (xad G q0)), (2, .int x2), (3, .int x3)] [] m0 (r21 q0 x2 x3 m0) := by
      subst hrg21
      exact hr21
    clear hrg21
    refine xj_eq (xv_eq _ _) ?_
    refine xj_iload_n F 2 dX9_calls_21 rfl ?_
    refine xj_aload_n F 0 dX9_calls_22 rfl ?_
    refine xj_getR F hq0 lgX9_20 dX9_calls_23 (fun u1 hu1 => ?_)
    refine xj_iload_n F 1 dX9_calls_26 rfl ?_
    refine xj_iconst F 3 dX9_calls_27 (by decide) ?_
    refine xj_callSI (As := [.ref (xad G u1), .int x2, .int 3]) (d' := 0) F lmX9_104 rfl rfl (Nat.le_of_ble_eq_true rfl) (xfit (Nat.le_trans (Nat.le_of_ble_eq_true rfl) hdep)) dX9_calls_28 (fun hT z hz => wX9_ofMember (xnd F) (Nat.le_refl _) hT (a0 := u1) (a1 := x2) (a2 := 3) hu1 z hz) (fun v3 m2 => ?_)
    refine xj_icmp_ge (tgt := 62) F dX9_calls_31 (by decide) ?_ ?_
    · refine xj_sub (lv' := [(0, .ref (xad G q0)), (2, .int x2)]) [0, 1] rfl ?_
      exact jX9_calls_62 F hdep hge hR2 hR3 q0 x2 m2 hq0
    · refine xj_aload_n F 0 dX9_calls_34 rfl ?_
      refine xj_get F hq0 lgX9_300 dX9_calls_35 (fun v4 => ?_)
      refine xj_if_ne (tgt := 62) F dX9_calls_38 (by decide) ?_ ?_
      · refine xj_sub (lv' := [(0, .ref (xad G q0)), (2, .int x2)]) [0, 1] rfl ?_
        exact jX9_calls_62 F hdep hge hR2 hR3 q0 x2 m2 hq0
      · refine xj_aload_n F 0 dX9_calls_41 rfl ?_
        refine xj_aload_n F 0 dX9_calls_42 rfl ?_
        refine xj_getR F hq0 lgX9_20 dX9_calls_43 (fun u5 hu5 => ?_)
        refine xj_iload_n F 1 dX9_calls_46 rfl ?_
        refine xj_iconst F 4 dX9_calls_47 (by decide) ?_
        refine xj_callSI (As := [.ref (xad G u5), .int x2, .int 4]) (d' := 0) F lmX9_104 rfl rfl (Nat.le_of_ble_eq_true rfl) (xfit (Nat.le_trans (Nat.le_of_ble_eq_true rfl) hdep)) dX9_calls_48 (fun hT z hz => wX9_ofMember (xnd F) (Nat.le_refl _) hT (a0 := u5) (a1 := x2) (a2 := 4) hu5 z hz) (fun v7 m6 => ?_)
        refine xj_iload_n F 2 dX9_calls_51 rfl ?_
        refine xj_iadd F dX9_calls_52 (fun v8 => ?_)
        refine xj_callVV (b := q0) (As := [.int v8]) (d' := e + 1) F hq0 lmX9_337 rfl rfl (Nat.le_of_ble_eq_true rfl) (xfit hge) dX9_calls_53 (fun hT => xvR (P := fun w => xMet G l mX9_acts (e + 1) (.ref (xad G q0) :: [.int v8]) _ w) (fun z hz => hR2 hT hq0 v8 0 z hz)) (fun m9 => ?_)
        refine xj_iinc F 2 1 (fun v10 => [(3, .int v10), (0, .ref (xad G q0)), (2, .int x2)]) dX9_calls_56 rfl (by decide) (by decide) (fun _ => rfl) (fun v10 => ?_)
        refine xj_goto (tgt := 21) F dX9_calls_59 (by decide) ?_
        refine xj_sub (lv' := [(0, .ref (xad G q0)), (2, .int x2), (3, .int v10)]) [1, 2, 0] rfl ?_
        exact hr21 q0 x2 v10 m9 hq0
set_option maxRecDepth 20000 in
set_option maxHeartbeats 4000000 in
theorem wX9_calls {G : XG} {l : Launch} {d : Nat} (hn : xN G) (hdep : 2 ≤ d) {e : Nat} {R : Nat → Nat → Int32 → Int32 → XM → Option (Int32 × XM)} (hge : e + 1 + 1 ≤ d) (hR2 : ∀ {m0 : XM}, xT G m0 → ∀ {q : Nat}, isa G q 9 → ∀ (x0 x1 : Int32) (z : Int32 × XM), R 2 q x0 x1 m0 = some z → xMet G l mX9_acts (e + 1) [.ref (xad G q), .int x0] m0 (xrV z.2)) (hR3 : ∀ {m0 : XM}, xT G m0 → ∀ {q : Nat}, isa G q 9 → ∀ (x0 x1 : Int32) (z : Int32 × XM), R 3 q x0 x1 m0 = some z → xMet G l mX9_sumOf (e + 1) [.ref (xad G q), .int x0] m0 (xrI z)) {m0 : XM} (hT : xT G m0) {a0 : Nat} {a1 : Int32} {a2 : Int32} (ha0 : isa G a0 9) : ∀ z, fX9_calls (xln G) R a0 a1 a2 m0 = some z → xMet G l mX9_calls d [.ref (xad G a0), .int a1, .int a2] m0 (xrI z) := by
  refine xMet_of (by decide +kernel) hn hT (Nat.le_of_ble_eq_true rfl) (fun X F => ?_)
  refine xj_sub (lv' := [(0, .ref (xad G a0)), (1, .int a1), (2, .int a2)]) [0, 1, 2] rfl ?_
  unfold fX9_calls
  refine xj_aload_n F 0 dX9_calls_0 rfl ?_
  refine xj_iload_n F 1 dX9_calls_1 rfl ?_
  refine xj_aload_n F 0 dX9_calls_2 rfl ?_
  refine xj_getR F ha0 lgX9_20 dX9_calls_3 (fun u1 hu1 => ?_)
  refine xj_iload_n F 2 dX9_calls_6 rfl ?_
  refine xj_iconst F 1 dX9_calls_7 (by decide) ?_
  refine xj_callSI (As := [.ref (xad G u1), .int a2, .int 1]) (d' := 0) F lmX9_104 rfl rfl (Nat.le_of_ble_eq_true rfl) (xfit (Nat.le_trans (Nat.le_of_ble_eq_true rfl) hdep)) dX9_calls_8 (fun hT z hz => wX9_ofMember (xnd F) (Nat.le_refl _) hT (a0 := u1) (a1 := a2) (a2 := 1) hu1 z hz) (fun v3 m2 => ?_)
  refine xj_callVI (b := a0) (As := [.int a1, .int v3]) (d' := 0) F ha0 lmX9_319 rfl rfl (Nat.le_of_ble_eq_true rfl) (xfit (Nat.le_trans (Nat.le_of_ble_eq_true rfl) hdep)) dX9_calls_11 (fun hT z hz => wX9_opens (xnd F) (Nat.le_refl _) hT (a0 := a0) (a1 := a1) (a2 := v3) ha0 z hz) (fun v5 m4 => ?_)
  refine xj_if_ne (tgt := 19) F dX9_calls_14 (by decide) ?_ ?_
  · refine xj_iconst F 0 dX9_calls_19 (by decide) ?_
    refine xj_istore_n (lv' := [(3, .int 0), (0, .ref (xad G a0)), (1, .int a1), (2, .int a2)]) F dX9_calls_20 (by decide) rfl ?_
    refine xj_sub (lv' := [(0, .ref (xad G a0)), (2, .int a2), (3, .int 0)]) [1, 3, 0] rfl ?_
    exact jX9_calls_21 F hdep hge hR2 hR3 XF a0 a2 0 m4 ha0
  · refine xj_iconst F 0 dX9_calls_17 (by decide) ?_
    exact xj_ret F rfl dX9_calls_18
set_option maxRecDepth 20000 in
set_option maxHeartbeats 4000000 in
theorem gwX9_comesTo {G : XG} {l : Launch} (hn : xN G) : ∀ (e : Nat), (∀ {m0 : XM}, xT G m0 → ∀ {q : Nat}, isa G q 9 → ∀ (x0 x1 : Int32) (z : Int32 × XM), gX9_comesTo (xln G) e 0 q x0 x1 m0 = some z → xMet G l mX9_comesTo (e + 1) [.ref (xad G q), .int x0] m0 (xrV z.2)) ∧ (∀ {m0 : XM}, xT G m0 → ∀ {q : Nat}, isa G q 9 → ∀ (x0 x1 : Int32) (z : Int32 × XM), gX9_comesTo (xln G) e 1 q x0 x1 m0 = some z → xMet G l mX9_does (e + 1) [.ref (xad G q), .int x0, .int x1] m0 (xrV z.2)) ∧ (∀ {m0 : XM}, xT G m0 → ∀ {q : Nat}, isa G q 9 → ∀ (x0 x1 : Int32) (z : Int32 × XM), gX9_comesTo (xln G) e 2 q x0 x1 m0 = some z → xMet G l mX9_acts (e + 1) [.ref (xad G q), .int x0] m0 (xrV z.2)) ∧ (∀ {m0 : XM}, xT G m0 → ∀ {q : Nat}, isa G q 9 → ∀ (x0 x1 : Int32) (z : Int32 × XM), gX9_comesTo (xln G) e 3 q x0 x1 m0 = some z → xMet G l mX9_sumOf (e + 1) [.ref (xad G q), .int x0] m0 (xrI z)) ∧ (∀ {m0 : XM}, xT G m0 → ∀ {q : Nat}, isa G q 9 → ∀ (x0 x1 : Int32) (z : Int32 × XM), gX9_comesTo (xln G) e 4 q x0 x1 m0 = some z → xMet G l mX9_termOf (e + 1) [.ref (xad G q), .int x0] m0 (xrI z)) ∧ (∀ {m0 : XM}, xT G m0 → ∀ {q : Nat}, isa G q 9 → ∀ (x0 x1 : Int32) (z : Int32 × XM), gX9_comesTo (xln G) e 5 q x0 x1 m0 = some z → xMet G l mX9_calls (e + 1) [.ref (xad G q), .int x0, .int x1] m0 (xrI z)) := by
  intro e
  induction e with
  | zero => exact ⟨(by intro m0 hT q hq x0 x1 z hz; unfold gX9_comesTo at hz; cases hz), (by intro m0 hT q hq x0 x1 z hz; unfold gX9_comesTo at hz; cases hz), (by intro m0 hT q hq x0 x1 z hz; unfold gX9_comesTo at hz; cases hz), (by intro m0 hT q hq x0 x1 z hz; unfold gX9_comesTo at hz; cases hz), (by intro m0 hT q hq x0 x1 z hz; unfold gX9_comesTo at hz; cases hz), (by intro m0 hT q hq x0 x1 z hz; unfold gX9_comesTo at hz; cases hz)⟩
  | succ e ih =>
    generalize hRg : (fun t q x0 x1 m0 => gX9_comesTo (xln G) e t q x0 x1 m0) = R
    have hR0 : ∀ {m0 : XM}, xT G m0 → ∀ {q : Nat}, isa G q 9 → ∀ (x0 x1 : Int32) (z : Int32 × XM), R 0 q x0 x1 m0 = some z → xMet G l mX9_comesTo (e + 1) [.ref (xad G q), .int x0] m0 (xrV z.2) := by
      subst hRg
      exact ih.1
    have hR1 : ∀ {m0 : XM}, xT G m0 → ∀ {q : Nat}, isa G q 9 → ∀ (x0 x1 : Int32) (z : Int32 × XM), R 1 q x0 x1 m0 = some z → xMet G l mX9_does (e + 1) [.ref (xad G q), .int x0, .int x1] m0 (xrV z.2) := by
      subst hRg
      exact ih.2.1
    have hR2 : ∀ {m0 : XM}, xT G m0 → ∀ {q : Nat}, isa G q 9 → ∀ (x0 x1 : Int32) (z : Int32 × XM), R 2 q x0 x1 m0 = some z → xMet G l mX9_acts (e + 1) [.ref (xad G q), .int x0] m0 (xrV z.2) := by
      subst hRg
      exact ih.2.2.1
    have hR3 : ∀ {m0 : XM}, xT G m0 → ∀ {q : Nat}, isa G q 9 → ∀ (x0 x1 : Int32) (z : Int32 × XM), R 3 q x0 x1 m0 = some z → xMet G l mX9_sumOf (e + 1) [.ref (xad G q), .int x0] m0 (xrI z) := by
      subst hRg
      exact ih.2.2.2.1
    have hR4 : ∀ {m0 : XM}, xT G m0 → ∀ {q : Nat}, isa G q 9 → ∀ (x0 x1 : Int32) (z : Int32 × XM), R 4 q x0 x1 m0 = some z → xMet G l mX9_termOf (e + 1) [.ref (xad G q), .int x0] m0 (xrI z) := by
      subst hRg
      exact ih.2.2.2.2.1
    have hR5 : ∀ {m0 : XM}, xT G m0 → ∀ {q : Nat}, isa G q 9 → ∀ (x0 x1 : Int32) (z : Int32 × XM), R 5 q x0 x1 m0 = some z → xMet G l mX9_calls (e + 1) [.ref (xad G q), .int x0, .int x1] m0 (xrI z) := by
      subst hRg
      exact ih.2.2.2.2.2
    have p0 : ∀ {m0 : XM}, xT G m0 → ∀ {q : Nat}, isa G q 9 → ∀ (x0 x1 : Int32) (z : Int32 × XM), gX9_comesTo (xln G) (e + 1) 0 q x0 x1 m0 = some z → xMet G l mX9_comesTo (e + 1 + 1) [.ref (xad G q), .int x0] m0 (xrV z.2) := by
      intro m0 hT q hq x0 x1 z hz
      unfold gX9_comesTo at hz
      rw [hRg] at hz
      have hz := hz
      simp only [xv, if_pos (show 0 = 0 from rfl)] at hz
      exact xvW (P := fun w => xMet G l mX9_comesTo (e + 1 + 1) _ m0 w) (fun z hz => wX9_comesTo hn (by omega) (e := e) (R := R) (by omega) hR0 hR1 hT (a0 := q) (a1 := x0) hq z hz) z hz
    have p1 : ∀ {m0 : XM}, xT G m0 → ∀ {q : Nat}, isa G q 9 → ∀ (x0 x1 : Int32) (z : Int32 × XM), gX9_comesTo (xln G) (e + 1) 1 q x0 x1 m0 = some z → xMet G l mX9_does (e + 1 + 1) [.ref (xad G q), .int x0, .int x1] m0 (xrV z.2) := by
      intro m0 hT q hq x0 x1 z hz
      unfold gX9_comesTo at hz
      rw [hRg] at hz
      have hz := hz
      simp only [xv, if_neg (show ¬ 1 = 0 by decide), if_pos (show 1 = 1 from rfl)] at hz
      exact xvW (P := fun w => xMet G l mX9_does (e + 1 + 1) _ m0 w) (fun z hz => wX9_does hn (by omega) (e := e) (R := R) (by omega) hR2 hR3 hT (a0 := q) (a1 := x0) (a2 := x1) hq z hz) z hz
    have p2 : ∀ {m0 : XM}, xT G m0 → ∀ {q : Nat}, isa G q 9 → ∀ (x0 x1 : Int32) (z : Int32 × XM), gX9_comesTo (xln G) (e + 1) 2 q x0 x1 m0 = some z → xMet G l mX9_acts (e + 1 + 1) [.ref (xad G q), .int x0] m0 (xrV z.2) := by
      intro m0 hT q hq x0 x1 z hz
      unfold gX9_comesTo at hz
      rw [hRg] at hz
      have hz := hz
      simp only [xv, if_neg (show ¬ 2 = 0 by decide), if_neg (show ¬ 2 = 1 by decide), if_pos (show 2 = 2 from rfl)] at hz
      exact xvW (P := fun w => xMet G l mX9_acts (e + 1 + 1) _ m0 w) (fun z hz => wX9_acts hn (by omega) (e := e) (R := R) (by omega) hR0 hR3 hT (a0 := q) (a1 := x0) hq z hz) z hz
    have p3 : ∀ {m0 : XM}, xT G m0 → ∀ {q : Nat}, isa G q 9 → ∀ (x0 x1 : Int32) (z : Int32 × XM), gX9_comesTo (xln G) (e + 1) 3 q x0 x1 m0 = some z → xMet G l mX9_sumOf (e + 1 + 1) [.ref (xad G q), .int x0] m0 (xrI z) := by
      intro m0 hT q hq x0 x1 z hz
      unfold gX9_comesTo at hz
      rw [hRg] at hz
      have hz := hz
      simp only [xv, if_neg (show ¬ 3 = 0 by decide), if_neg (show ¬ 3 = 1 by decide), if_neg (show ¬ 3 = 2 by decide), if_pos (show 3 = 3 from rfl)] at hz
      exact wX9_sumOf hn (by omega) (e := e) (R := R) (by omega) hR4 hT (a0 := q) (a1 := x0) hq z hz
    have p4 : ∀ {m0 : XM}, xT G m0 → ∀ {q : Nat}, isa G q 9 → ∀ (x0 x1 : Int32) (z : Int32 × XM), gX9_comesTo (xln G) (e + 1) 4 q x0 x1 m0 = some z → xMet G l mX9_termOf (e + 1 + 1) [.ref (xad G q), .int x0] m0 (xrI z) := by
      intro m0 hT q hq x0 x1 z hz
      unfold gX9_comesTo at hz
      rw [hRg] at hz
      have hz := hz
      simp only [xv, if_neg (show ¬ 4 = 0 by decide), if_neg (show ¬ 4 = 1 by decide), if_neg (show ¬ 4 = 2 by decide), if_neg (show ¬ 4 = 3 by decide), if_pos (show 4 = 4 from rfl)] at hz
      exact wX9_termOf hn (by omega) (e := e) (R := R) (by omega) hR0 hR3 hR5 hT (a0 := q) (a1 := x0) hq z hz
    have p5 : ∀ {m0 : XM}, xT G m0 → ∀ {q : Nat}, isa G q 9 → ∀ (x0 x1 : Int32) (z : Int32 × XM), gX9_comesTo (xln G) (e + 1) 5 q x0 x1 m0 = some z → xMet G l mX9_calls (e + 1 + 1) [.ref (xad G q), .int x0, .int x1] m0 (xrI z) := by
      intro m0 hT q hq x0 x1 z hz
      unfold gX9_comesTo at hz
      rw [hRg] at hz
      have hz := hz
      simp only [xv, if_neg (show ¬ 5 = 0 by decide), if_neg (show ¬ 5 = 1 by decide), if_neg (show ¬ 5 = 2 by decide), if_neg (show ¬ 5 = 3 by decide), if_neg (show ¬ 5 = 4 by decide), if_pos (show 5 = 5 from rfl)] at hz
      exact wX9_calls hn (by omega) (e := e) (R := R) (by omega) hR2 hR3 hT (a0 := q) (a1 := x0) (a2 := x1) hq z hz
    exact ⟨p0, p1, p2, p3, p4, p5⟩
set_option maxRecDepth 20000 in
set_option maxHeartbeats 4000000 in
theorem jX9_begins_44 {G : XG} {l : Launch} {d : Nat} {X : XX} (F : xF (xE G d) G X mX9_begins) (hdep : 0 ≤ d) : ∀ (n : Nat) (q0 : Nat) (x1 : Int32) (m0 : XM), isa G q0 9 → xJ (xE G d) (xQ xrV G X mX9_begins) G l X mX9_begins 44 [(0, .ref (xad G q0)), (1, .int x1)] [] m0 (fX9_begins_44 (xln G) n q0 x1 m0) := by
  intro n
  induction n with
  | zero => intro q0 x1 m0 hq0; exact xj_none
  | succ n hr44 =>
    intro q0 x1 m0 hq0
    unfold fX9_begins_44
    generalize hrg44 : (fun q0 x1 m0 => fX9_begins_44 (xln G) n q0 x1 m0) = r44
    have hr44 : ∀ (q0 : Nat) (x1 : Int32) (m0 : XM), isa G q0 9 → xJ (xE G d) (xQ xrV G X mX9_begins) G l X mX9_begins 44 [(0, .ref (xad G q0)), (1, .int x1)] [] m0 (r44 q0 x1 m0) := by
      subst hrg44
      exact hr44
    clear hrg44
    refine xj_eq (xv_eq _ _) ?_
    refine xj_iload_n F 1 dX9_begins_44 rfl ?_
    refine xj_bipush F 84 dX9_begins_45 (by decide) ?_
    refine xj_icmp_ge (tgt := 70) F dX9_begins_47 (by decide) ?_ ?_
    · refine xj_aload_n F 0 dX9_begins_70 rfl ?_
      refine xj_iconst F 0 dX9_begins_71 (by decide) ?_
      refine xj_put F hq0 lpX9_325 dX9_begins_72 (fun m1 => ?_)
      refine xj_aload_n F 0 dX9_begins_75 rfl ?_
      refine xj_iconst F 0 dX9_begins_76 (by decide) ?_
      refine xj_put F hq0 lpX9_303 dX9_begins_77 (fun m2 => ?_)
      refine xj_aload_n F 0 dX9_begins_80 rfl ?_
      refine xj_iconst F 0 dX9_begins_81 (by decide) ?_
      refine xj_put F hq0 lpX9_297 dX9_begins_82 (fun m3 => ?_)
      refine xj_aload_n F 0 dX9_begins_85 rfl ?_
      refine xj_iconst F 0 dX9_begins_86 (by decide) ?_
      refine xj_put F hq0 lpX9_300 dX9_begins_87 (fun m4 => ?_)
      refine xj_aload_n F 0 dX9_begins_90 rfl ?_
      refine xj_iconst F 0 dX9_begins_91 (by decide) ?_
      refine xj_put F hq0 lpX9_358 dX9_begins_92 (fun m5 => ?_)
      refine xj_aload_n F 0 dX9_begins_95 rfl ?_
      refine xj_iconst F 0 dX9_begins_96 (by decide) ?_
      refine xj_put F hq0 lpX9_343 dX9_begins_97 (fun m6 => ?_)
      refine xj_aload_n F 0 dX9_begins_100 rfl ?_
      refine xj_iconst F 0 dX9_begins_101 (by decide) ?_
      refine xj_put F hq0 lpX9_364 dX9_begins_102 (fun m7 => ?_)
      exact xj_retV F rfl dX9_begins_105
    · refine xj_aload_n F 0 dX9_begins_50 rfl ?_
      refine xj_getR F hq0 lgX9_45 dX9_begins_51 (fun u8 hu8 => ?_)
      refine xj_iload_n F 1 dX9_begins_54 rfl ?_
      refine xj_iconst F 0 dX9_begins_55 (by decide) ?_
      refine xj_iast F hu8 dX9_begins_56 (fun m9 => ?_)
      refine xj_aload_n F 0 dX9_begins_57 rfl ?_
      refine xj_getR F hq0 lgX9_63 dX9_begins_58 (fun u10 hu10 => ?_)
      refine xj_iload_n F 1 dX9_begins_61 rfl ?_
      refine xj_iconst F 0 dX9_begins_62 (by decide) ?_
      refine xj_zast F hu10 dX9_begins_63 (fun m11 => ?_)
      refine xj_iinc F 1 1 (fun v12 => [(1, .int v12), (0, .ref (xad G q0))]) dX9_begins_64 rfl (by decide) (by decide) (fun _ => rfl) (fun v12 => ?_)
      refine xj_goto (tgt := 44) F dX9_begins_67 (by decide) ?_
      refine xj_sub (lv' := [(0, .ref (xad G q0)), (1, .int v12)]) [1, 0] rfl ?_
      exact hr44 q0 v12 m11 hq0
set_option maxRecDepth 20000 in
set_option maxHeartbeats 4000000 in
theorem jX9_begins_2 {G : XG} {l : Launch} {d : Nat} {X : XX} (F : xF (xE G d) G X mX9_begins) (hdep : 0 ≤ d) : ∀ (n : Nat) (q0 : Nat) (x1 : Int32) (m0 : XM), isa G q0 9 → xJ (xE G d) (xQ xrV G X mX9_begins) G l X mX9_begins 2 [(0, .ref (xad G q0)), (1, .int x1)] [] m0 (fX9_begins_2 (xln G) n q0 x1 m0) := by
  intro n
  induction n with
  | zero => intro q0 x1 m0 hq0; exact xj_none
  | succ n hr2 =>
    intro q0 x1 m0 hq0
    unfold fX9_begins_2
    generalize hrg2 : (fun q0 x1 m0 => fX9_begins_2 (xln G) n q0 x1 m0) = r2
    have hr2 : ∀ (q0 : Nat) (x1 : Int32) (m0 : XM), isa G q0 9 → xJ (xE G d) (xQ xrV G X mX9_begins) G l X mX9_begins 2 [(0, .ref (xad G q0)), (1, .int x1)] [] m0 (r2 q0 x1 m0) := by
      subst hrg2
      exact hr2
    clear hrg2
    refine xj_eq (xv_eq _ _) ?_
    refine xj_iload_n F 1 dX9_begins_2 rfl ?_
    refine xj_bipush F 7 dX9_begins_3 (by decide) ?_
    refine xj_icmp_ge (tgt := 42) F dX9_begins_5 (by decide) ?_ ?_
    · refine xj_iconst F 0 dX9_begins_42 (by decide) ?_
      refine xj_istore_n (lv' := [(1, .int 0), (0, .ref (xad G q0))]) F dX9_begins_43 (by decide) rfl ?_
      refine xj_sub (lv' := [(0, .ref (xad G q0)), (1, .int 0)]) [1, 0] rfl ?_
      exact jX9_begins_44 F hdep XF q0 0 m0 hq0
    · refine xj_aload_n F 0 dX9_begins_8 rfl ?_
      refine xj_getR F hq0 lgX9_39 dX9_begins_9 (fun u1 hu1 => ?_)
      refine xj_iload_n F 1 dX9_begins_12 rfl ?_
      refine xj_iconst F 0 dX9_begins_13 (by decide) ?_
      refine xj_iast F hu1 dX9_begins_14 (fun m2 => ?_)
      refine xj_aload_n F 0 dX9_begins_15 rfl ?_
      refine xj_getR F hq0 lgX9_48 dX9_begins_16 (fun u3 hu3 => ?_)
      refine xj_iload_n F 1 dX9_begins_19 rfl ?_
      refine xj_iconst F (-1) dX9_begins_20 (by decide) ?_
      refine xj_iast F hu3 dX9_begins_21 (fun m4 => ?_)
      refine xj_aload_n F 0 dX9_begins_22 rfl ?_
      refine xj_getR F hq0 lgX9_51 dX9_begins_23 (fun u5 hu5 => ?_)
      refine xj_iload_n F 1 dX9_begins_26 rfl ?_
      refine xj_iconst F (-1) dX9_begins_27 (by decide) ?_
      refine xj_iast F hu5 dX9_begins_28 (fun m6 => ?_)
      refine xj_aload_n F 0 dX9_begins_29 rfl ?_
      refine xj_getR F hq0 lgX9_54 dX9_begins_30 (fun u7 hu7 => ?_)
      refine xj_iload_n F 1 dX9_begins_33 rfl ?_
      refine xj_iconst F (-1) dX9_begins_34 (by decide) ?_
      refine xj_iast F hu7 dX9_begins_35 (fun m8 => ?_)
      refine xj_iinc F 1 1 (fun v9 => [(1, .int v9), (0, .ref (xad G q0))]) dX9_begins_36 rfl (by decide) (by decide) (fun _ => rfl) (fun v9 => ?_)
      refine xj_goto (tgt := 2) F dX9_begins_39 (by decide) ?_
      refine xj_sub (lv' := [(0, .ref (xad G q0)), (1, .int v9)]) [1, 0] rfl ?_
      exact hr2 q0 v9 m8 hq0
set_option maxRecDepth 20000 in
set_option maxHeartbeats 4000000 in
theorem wX9_begins {G : XG} {l : Launch} {d : Nat} (hn : xN G) (hdep : 0 ≤ d) {m0 : XM} (hT : xT G m0) {a0 : Nat} (ha0 : isa G a0 9) : ∀ z, fX9_begins (xln G) a0 m0 = some z → xMet G l mX9_begins d [.ref (xad G a0)] m0 (xrV z) := by
  refine xMet_of (by decide +kernel) hn hT (Nat.le_of_ble_eq_true rfl) (fun X F => ?_)
  refine xj_sub (lv' := [(0, .ref (xad G a0))]) [0] rfl ?_
  unfold fX9_begins
  refine xj_iconst F 0 dX9_begins_0 (by decide) ?_
  refine xj_istore_n (lv' := [(1, .int 0), (0, .ref (xad G a0))]) F dX9_begins_1 (by decide) rfl ?_
  refine xj_sub (lv' := [(0, .ref (xad G a0)), (1, .int 0)]) [1, 0] rfl ?_
  exact jX9_begins_2 F hdep XF a0 0 m0 ha0
set_option maxRecDepth 20000 in
set_option maxHeartbeats 4000000 in
theorem jX9_goesMain_74 {G : XG} {l : Launch} {d : Nat} {X : XX} (F : xF (xE G d) G X mX9_goesMain) (hdep : 602 ≤ d) {r5 : Nat → XM → Option XM} (hr5 : ∀ (q0 : Nat) (m0 : XM), isa G q0 9 → xJ (xE G d) (xQ xrV G X mX9_goesMain) G l X mX9_goesMain 5 [(0, .ref (xad G q0))] [] m0 (r5 q0 m0)) : ∀ (q0 : Nat) (m0 : XM), isa G q0 9 → xJ (xE G d) (xQ xrV G X mX9_goesMain) G l X mX9_goesMain 74 [(0, .ref (xad G q0))] [] m0 (fX9_goesMain_74 (xln G) r5 q0 m0) := by
  intro q0 m0 hq0
  unfold fX9_goesMain_74
  refine xj_aload_n F 0 dX9_goesMain_74 rfl ?_
  refine xj_dup F dX9_goesMain_75 rfl ?_
  refine xj_get F hq0 lgX9_361 dX9_goesMain_76 (fun v1 => ?_)
  refine xj_iconst F 1 dX9_goesMain_79 (by decide) ?_
  refine xj_iadd F dX9_goesMain_80 (fun v2 => ?_)
  refine xj_put F hq0 lpX9_361 dX9_goesMain_81 (fun m3 => ?_)
  refine xj_goto (tgt := 5) F dX9_goesMain_84 (by decide) ?_
  exact hr5 q0 m3 hq0
set_option maxRecDepth 20000 in
set_option maxHeartbeats 4000000 in
theorem jX9_goesMain_5 {G : XG} {l : Launch} {d : Nat} {X : XX} (F : xF (xE G d) G X mX9_goesMain) (hdep : 602 ≤ d) : ∀ (n : Nat) (q0 : Nat) (m0 : XM), isa G q0 9 → xJ (xE G d) (xQ xrV G X mX9_goesMain) G l X mX9_goesMain 5 [(0, .ref (xad G q0))] [] m0 (fX9_goesMain_5 (xln G) n q0 m0) := by
  intro n
  induction n with
  | zero => intro q0 m0 hq0; exact xj_none
  | succ n hr5 =>
    intro q0 m0 hq0
    unfold fX9_goesMain_5
    generalize hrg5 : (fun q0 m0 => fX9_goesMain_5 (xln G) n q0 m0) = r5
    have hr5 : ∀ (q0 : Nat) (m0 : XM), isa G q0 9 → xJ (xE G d) (xQ xrV G X mX9_goesMain) G l X mX9_goesMain 5 [(0, .ref (xad G q0))] [] m0 (r5 q0 m0) := by
      subst hrg5
      exact hr5
    clear hrg5
    refine xj_eq (xv_eq _ _) ?_
    refine xj_aload_n F 0 dX9_goesMain_5 rfl ?_
    refine xj_get F hq0 lgX9_361 dX9_goesMain_6 (fun v1 => ?_)
    refine xj_aload_n F 0 dX9_goesMain_9 rfl ?_
    refine xj_getR F hq0 lgX9_20 dX9_goesMain_10 (fun u2 hu2 => ?_)
    refine xj_iconst F 4 dX9_goesMain_13 (by decide) ?_
    refine xj_iald F hu2 dX9_goesMain_14 (fun v3 => ?_)
    refine xj_icmp_ge (tgt := 87) F dX9_goesMain_15 (by decide) ?_ ?_
    · exact xj_retV F rfl dX9_goesMain_87
    · refine xj_aload_n F 0 dX9_goesMain_18 rfl ?_
      refine xj_get F hq0 lgX9_300 dX9_goesMain_19 (fun v4 => ?_)
      refine xj_iconst F 2 dX9_goesMain_22 (by decide) ?_
      refine xj_icmp_eq (tgt := 87) F dX9_goesMain_23 (by decide) ?_ ?_
      · exact xj_retV F rfl dX9_goesMain_87
      · refine xj_aload_n F 0 dX9_goesMain_26 rfl ?_
        refine xj_iconst F 0 dX9_goesMain_27 (by decide) ?_
        refine xj_put F hq0 lpX9_300 dX9_goesMain_28 (fun m5 => ?_)
        refine xj_aload_n F 0 dX9_goesMain_31 rfl ?_
        refine xj_aload_n F 0 dX9_goesMain_32 rfl ?_
        refine xj_getR F hq0 lgX9_20 dX9_goesMain_33 (fun u6 hu6 => ?_)
        refine xj_sipush F 3810 dX9_goesMain_36 (by decide) ?_
        refine xj_aload_n F 0 dX9_goesMain_39 rfl ?_
        refine xj_get F hq0 lgX9_361 dX9_goesMain_40 (fun v7 => ?_)
        refine xj_iadd F dX9_goesMain_43 (fun v8 => ?_)
        refine xj_iald F hu6 dX9_goesMain_44 (fun v9 => ?_)
        refine xj_callVV (b := q0) (As := [.int v9]) (d' := 601) F hq0 lmX9_337 rfl rfl (Nat.le_of_ble_eq_true rfl) (xfit (Nat.le_trans (Nat.le_of_ble_eq_true rfl) hdep)) dX9_goesMain_45 (fun hT => xvR (P := fun w => xMet G l mX9_acts (600 + 1) (.ref (xad G q0) :: [.int v9]) _ w) (fun z hz => (gwX9_comesTo (xnd F) 600).2.2.1 hT hq0 v9 0 z hz)) (fun m10 => ?_)
        refine xj_aload_n F 0 dX9_goesMain_48 rfl ?_
        refine xj_get F hq0 lgX9_300 dX9_goesMain_49 (fun v11 => ?_)
        refine xj_iconst F 1 dX9_goesMain_52 (by decide) ?_
        refine xj_icmp_eq (tgt := 59) F dX9_goesMain_53 (by decide) ?_ ?_
        · refine xj_aload_n F 0 dX9_goesMain_59 rfl ?_
          refine xj_dup F dX9_goesMain_60 rfl ?_
          refine xj_get F hq0 lgX9_364 dX9_goesMain_61 (fun v12 => ?_)
          refine xj_iconst F 1 dX9_goesMain_64 (by decide) ?_
          refine xj_iadd F dX9_goesMain_65 (fun v13 => ?_)
          refine xj_put F hq0 lpX9_364 dX9_goesMain_66 (fun m14 => ?_)
          refine xj_aload_n F 0 dX9_goesMain_69 rfl ?_
          refine xj_iconst F 0 dX9_goesMain_70 (by decide) ?_
          refine xj_put F hq0 lpX9_300 dX9_goesMain_71 (fun m15 => ?_)
          exact jX9_goesMain_74 F hdep hr5 q0 m15 hq0
        · refine xj_goto (tgt := 74) F dX9_goesMain_56 (by decide) ?_
          exact jX9_goesMain_74 F hdep hr5 q0 m10 hq0
set_option maxRecDepth 20000 in
set_option maxHeartbeats 4000000 in
theorem wX9_goesMain {G : XG} {l : Launch} {d : Nat} (hn : xN G) (hdep : 602 ≤ d) {m0 : XM} (hT : xT G m0) {a0 : Nat} (ha0 : isa G a0 9) : ∀ z, fX9_goesMain (xln G) a0 m0 = some z → xMet G l mX9_goesMain d [.ref (xad G a0)] m0 (xrV z) := by
  refine xMet_of (by decide +kernel) hn hT (Nat.le_of_ble_eq_true rfl) (fun X F => ?_)
  refine xj_sub (lv' := [(0, .ref (xad G a0))]) [0] rfl ?_
  unfold fX9_goesMain
  refine xj_aload_n F 0 dX9_goesMain_0 rfl ?_
  refine xj_iconst F 0 dX9_goesMain_1 (by decide) ?_
  refine xj_put F ha0 lpX9_361 dX9_goesMain_2 (fun m1 => ?_)
  exact jX9_goesMain_5 F hdep XF a0 m1 ha0
set_option maxRecDepth 20000 in
set_option maxHeartbeats 4000000 in
theorem wX9_lays {G : XG} {l : Launch} {d : Nat} (hn : xN G) (hdep : 603 ≤ d) {m0 : XM} (hT : xT G m0) {a0 : Nat} (ha0 : isa G a0 9) : ∀ z, fX9_lays (xln G) a0 m0 = some z → xMet G l mX9_lays d [.ref (xad G a0)] m0 (xrV z) := by
  refine xMet_of (by decide +kernel) hn hT (Nat.le_of_ble_eq_true rfl) (fun X F => ?_)
  refine xj_sub (lv' := [(0, .ref (xad G a0))]) [0] rfl ?_
  unfold fX9_lays
  refine xj_aload_n F 0 dX9_lays_0 rfl ?_
  refine xj_get F ha0 lgX9_279 dX9_lays_1 (fun v1 => ?_)
  refine xj_if_eq (tgt := 8) F dX9_lays_4 (by decide) ?_ ?_
  · refine xj_aload_n F 0 dX9_lays_8 rfl ?_
    refine xj_callVV (b := a0) (As := []) (d' := 0) F ha0 lmX9_367 rfl rfl (Nat.le_of_ble_eq_true rfl) (xfit (Nat.le_trans (Nat.le_of_ble_eq_true rfl) hdep)) dX9_lays_9 (fun hT z hz => wX9_begins (xnd F) (Nat.le_refl _) hT (a0 := a0) ha0 z hz) (fun m2 => ?_)
    refine xj_aload_n F 0 dX9_lays_12 rfl ?_
    refine xj_iconst F 1 dX9_lays_13 (by decide) ?_
    refine xj_putZ F ha0 lpX9_355 rfl rfl dX9_lays_14 (fun m3 => ?_)
    refine xj_aload_n F 0 dX9_lays_17 rfl ?_
    refine xj_callVV (b := a0) (As := []) (d' := 602) F ha0 lmX9_370 rfl rfl (Nat.le_of_ble_eq_true rfl) (xfit (Nat.le_trans (Nat.le_of_ble_eq_true rfl) hdep)) dX9_lays_18 (fun hT z hz => wX9_goesMain (xnd F) (Nat.le_refl _) hT (a0 := a0) ha0 z hz) (fun m4 => ?_)
    refine xj_aload_n F 0 dX9_lays_21 rfl ?_
    refine xj_iconst F 0 dX9_lays_22 (by decide) ?_
    refine xj_putZ F ha0 lpX9_355 rfl rfl dX9_lays_23 (fun m5 => ?_)
    refine xj_aload_n F 0 dX9_lays_26 rfl ?_
    refine xj_iconst F 1 dX9_lays_27 (by decide) ?_
    refine xj_putZ F ha0 lpX9_279 rfl rfl dX9_lays_28 (fun m6 => ?_)
    exact xj_retV F rfl dX9_lays_31
  · exact xj_retV F rfl dX9_lays_7
set_option maxRecDepth 20000 in
set_option maxHeartbeats 4000000 in
theorem jX9_goesEager_83 {G : XG} {l : Launch} {d : Nat} {X : XX} (F : xF (xE G d) G X mX9_goesEager) (hdep : 603 ≤ d) : ∀ (q0 : Nat) (m0 : XM), isa G q0 9 → xJ (xE G d) (xQ xrV G X mX9_goesEager) G l X mX9_goesEager 83 [(0, .ref (xad G q0))] [] m0 (fX9_goesEager_83 (xln G) q0 m0) := by
  intro q0 m0 hq0
  unfold fX9_goesEager_83
  refine xj_aload_n F 0 dX9_goesEager_83 rfl ?_
  refine xj_get F hq0 lgX9_300 dX9_goesEager_84 (fun v1 => ?_)
  refine xj_iconst F 2 dX9_goesEager_87 (by decide) ?_
  refine xj_icmp_eq (tgt := 100) F dX9_goesEager_88 (by decide) ?_ ?_
  · exact xj_retV F rfl dX9_goesEager_100
  · refine xj_aload_n F 0 dX9_goesEager_91 rfl ?_
    refine xj_iconst F 0 dX9_goesEager_92 (by decide) ?_
    refine xj_put F hq0 lpX9_300 dX9_goesEager_93 (fun m2 => ?_)
    refine xj_aload_n F 0 dX9_goesEager_96 rfl ?_
    refine xj_callVV (b := q0) (As := []) (d' := 602) F hq0 lmX9_370 rfl rfl (Nat.le_of_ble_eq_true rfl) (xfit (Nat.le_trans (Nat.le_of_ble_eq_true rfl) hdep)) dX9_goesEager_97 (fun hT z hz => wX9_goesMain (xnd F) (Nat.le_refl _) hT (a0 := q0) hq0 z hz) (fun m3 => ?_)
    exact xj_retV F rfl dX9_goesEager_100
set_option maxRecDepth 20000 in
set_option maxHeartbeats 4000000 in
theorem jX9_goesEager_39 {G : XG} {l : Launch} {d : Nat} {X : XX} (F : xF (xE G d) G X mX9_goesEager) (hdep : 603 ≤ d) : ∀ (n : Nat) (q0 : Nat) (x1 : Int32) (x2 : Int32) (m0 : XM), isa G q0 9 → xJ (xE G d) (xQ xrV G X mX9_goesEager) G l X mX9_goesEager 39 [(0, .ref (xad G q0)), (1, .int x1), (2, .int x2)] [] m0 (fX9_goesEager_39 (xln G) n q0 x1 x2 m0) := by
  intro n
  induction n with
  | zero => intro q0 x1 x2 m0 hq0; exact xj_none
  | succ n hr39 =>
    intro q0 x1 x2 m0 hq0
    unfold fX9_goesEager_39
    generalize hrg39 : (fun q0 x1 x2 m0 => fX9_goesEager_39 (xln G) n q0 x1 x2 m0) = r39
    have hr39 : ∀ (q0 : Nat) (x1 : Int32) (x2 : Int32) (m0 : XM), isa G q0 9 → xJ (xE G d) (xQ xrV G X mX9_goesEager) G l X mX9_goesEager 39 [(0, .ref (xad G q0)), (1, .int x1), (2, .int x2)] [] m0 (r39 q0 x1 x2 m0) := by
      subst hrg39
      exact hr39
    clear hrg39
    refine xj_eq (xv_eq _ _) ?_
    refine xj_iload_n F 2 dX9_goesEager_39 rfl ?_
    refine xj_if_le (tgt := 83) F dX9_goesEager_40 (by decide) ?_ ?_
    · refine xj_sub (lv' := [(0, .ref (xad G q0))]) [0] rfl ?_
      exact jX9_goesEager_83 F hdep q0 m0 hq0
    · refine xj_aload_n F 0 dX9_goesEager_43 rfl ?_
      refine xj_getR F hq0 lgX9_20 dX9_goesEager_44 (fun u1 hu1 => ?_)
      refine xj_iconst F 0 dX9_goesEager_47 (by decide) ?_
      refine xj_iald F hu1 dX9_goesEager_48 (fun v2 => ?_)
      refine xj_if_le (tgt := 83) F dX9_goesEager_49 (by decide) ?_ ?_
      · refine xj_sub (lv' := [(0, .ref (xad G q0))]) [0] rfl ?_
        exact jX9_goesEager_83 F hdep q0 m0 hq0
      · refine xj_aload_n F 0 dX9_goesEager_52 rfl ?_
        refine xj_get F hq0 lgX9_300 dX9_goesEager_53 (fun v3 => ?_)
        refine xj_iconst F 2 dX9_goesEager_56 (by decide) ?_
        refine xj_icmp_eq (tgt := 83) F dX9_goesEager_57 (by decide) ?_ ?_
        · refine xj_sub (lv' := [(0, .ref (xad G q0))]) [0] rfl ?_
          exact jX9_goesEager_83 F hdep q0 m0 hq0
        · refine xj_aload_n F 0 dX9_goesEager_60 rfl ?_
          refine xj_iconst F 0 dX9_goesEager_61 (by decide) ?_
          refine xj_put F hq0 lpX9_300 dX9_goesEager_62 (fun m4 => ?_)
          refine xj_aload_n F 0 dX9_goesEager_65 rfl ?_
          refine xj_iload_n F 1 dX9_goesEager_66 rfl ?_
          refine xj_iload_n F 2 dX9_goesEager_67 rfl ?_
          refine xj_idiv F dX9_goesEager_68 (fun v5 => ?_)
          refine xj_bipush F 10 dX9_goesEager_69 (by decide) ?_
          refine xj_irem F dX9_goesEager_71 (fun v6 => ?_)
          refine xj_callVV (b := q0) (As := [.int v6]) (d' := 601) F hq0 lmX9_328 rfl rfl (Nat.le_of_ble_eq_true rfl) (xfit (Nat.le_trans (Nat.le_of_ble_eq_true rfl) hdep)) dX9_goesEager_72 (fun hT => xvR (P := fun w => xMet G l mX9_comesTo (600 + 1) (.ref (xad G q0) :: [.int v6]) _ w) (fun z hz => (gwX9_comesTo (xnd F) 600).1 hT hq0 v6 0 z hz)) (fun m7 => ?_)
          refine xj_iload_n F 2 dX9_goesEager_75 rfl ?_
          refine xj_bipush F 10 dX9_goesEager_76 (by decide) ?_
          refine xj_idiv F dX9_goesEager_78 (fun v8 => ?_)
          refine xj_istore_n (lv' := [(2, .int v8), (0, .ref (xad G q0)), (1, .int x1)]) F dX9_goesEager_79 (by decide) rfl ?_
          refine xj_goto (tgt := 39) F dX9_goesEager_80 (by decide) ?_
          refine xj_sub (lv' := [(0, .ref (xad G q0)), (1, .int x1), (2, .int v8)]) [1, 2, 0] rfl ?_
          exact hr39 q0 x1 v8 m7 hq0
set_option maxRecDepth 20000 in
set_option maxHeartbeats 4000000 in
theorem jX9_goesEager_18 {G : XG} {l : Launch} {d : Nat} {X : XX} (F : xF (xE G d) G X mX9_goesEager) (hdep : 603 ≤ d) : ∀ (n : Nat) (q0 : Nat) (x1 : Int32) (x2 : Int32) (x3 : Int32) (m0 : XM), isa G q0 9 → xJ (xE G d) (xQ xrV G X mX9_goesEager) G l X mX9_goesEager 18 [(0, .ref (xad G q0)), (1, .int x1), (2, .int x2), (3, .int x3)] [] m0 (fX9_goesEager_18 (xln G) n q0 x1 x2 x3 m0) := by
  intro n
  induction n with
  | zero => intro q0 x1 x2 x3 m0 hq0; exact xj_none
  | succ n hr18 =>
    intro q0 x1 x2 x3 m0 hq0
    unfold fX9_goesEager_18
    generalize hrg18 : (fun q0 x1 x2 x3 m0 => fX9_goesEager_18 (xln G) n q0 x1 x2 x3 m0) = r18
    have hr18 : ∀ (q0 : Nat) (x1 : Int32) (x2 : Int32) (x3 : Int32) (m0 : XM), isa G q0 9 → xJ (xE G d) (xQ xrV G X mX9_goesEager) G l X mX9_goesEager 18 [(0, .ref (xad G q0)), (1, .int x1), (2, .int x2), (3, .int x3)] [] m0 (r18 q0 x1 x2 x3 m0) := by
      subst hrg18
      exact hr18
    clear hrg18
    refine xj_eq (xv_eq _ _) ?_
    refine xj_iload_n F 3 dX9_goesEager_18 rfl ?_
    refine xj_aload_n F 0 dX9_goesEager_19 rfl ?_
    refine xj_getR F hq0 lgX9_20 dX9_goesEager_20 (fun u1 hu1 => ?_)
    refine xj_iconst F 0 dX9_goesEager_23 (by decide) ?_
    refine xj_iald F hu1 dX9_goesEager_24 (fun v2 => ?_)
    refine xj_icmp_ge (tgt := 39) F dX9_goesEager_25 (by decide) ?_ ?_
    · refine xj_sub (lv' := [(0, .ref (xad G q0)), (1, .int x1), (2, .int x2)]) [0, 1, 2] rfl ?_
      exact jX9_goesEager_39 F hdep XF q0 x1 x2 m0 hq0
    · refine xj_iload_n F 2 dX9_goesEager_28 rfl ?_
      refine xj_bipush F 10 dX9_goesEager_29 (by decide) ?_
      refine xj_imul F dX9_goesEager_31 (fun v3 => ?_)
      refine xj_istore_n (lv' := [(2, .int v3), (0, .ref (xad G q0)), (1, .int x1), (3, .int x3)]) F dX9_goesEager_32 (by decide) rfl ?_
      refine xj_iinc F 3 1 (fun v4 => [(3, .int v4), (2, .int v3), (0, .ref (xad G q0)), (1, .int x1)]) dX9_goesEager_33 rfl (by decide) (by decide) (fun _ => rfl) (fun v4 => ?_)
      refine xj_goto (tgt := 18) F dX9_goesEager_36 (by decide) ?_
      refine xj_sub (lv' := [(0, .ref (xad G q0)), (1, .int x1), (2, .int v3), (3, .int v4)]) [2, 3, 1, 0] rfl ?_
      exact hr18 q0 x1 v3 v4 m0 hq0
set_option maxRecDepth 20000 in
set_option maxHeartbeats 4000000 in
theorem wX9_goesEager {G : XG} {l : Launch} {d : Nat} (hn : xN G) (hdep : 603 ≤ d) {m0 : XM} (hT : xT G m0) {a0 : Nat} {a1 : Int32} (ha0 : isa G a0 9) : ∀ z, fX9_goesEager (xln G) a0 a1 m0 = some z → xMet G l mX9_goesEager d [.ref (xad G a0), .int a1] m0 (xrV z) := by
  refine xMet_of (by decide +kernel) hn hT (Nat.le_of_ble_eq_true rfl) (fun X F => ?_)
  refine xj_sub (lv' := [(0, .ref (xad G a0)), (1, .int a1)]) [0, 1] rfl ?_
  unfold fX9_goesEager
  refine xj_aload_n F 0 dX9_goesEager_0 rfl ?_
  refine xj_iconst F 0 dX9_goesEager_1 (by decide) ?_
  refine xj_putZ F ha0 lpX9_279 rfl rfl dX9_goesEager_2 (fun m1 => ?_)
  refine xj_aload_n F 0 dX9_goesEager_5 rfl ?_
  refine xj_callVV (b := a0) (As := []) (d' := 0) F ha0 lmX9_367 rfl rfl (Nat.le_of_ble_eq_true rfl) (xfit (Nat.le_trans (Nat.le_of_ble_eq_true rfl) hdep)) dX9_goesEager_6 (fun hT z hz => wX9_begins (xnd F) (Nat.le_refl _) hT (a0 := a0) ha0 z hz) (fun m2 => ?_)
  refine xj_aload_n F 0 dX9_goesEager_9 rfl ?_
  refine xj_iconst F 0 dX9_goesEager_10 (by decide) ?_
  refine xj_putZ F ha0 lpX9_355 rfl rfl dX9_goesEager_11 (fun m3 => ?_)
  refine xj_iconst F 1 dX9_goesEager_14 (by decide) ?_
  refine xj_istore_n (lv' := [(2, .int 1), (0, .ref (xad G a0)), (1, .int a1)]) F dX9_goesEager_15 (by decide) rfl ?_
  refine xj_iconst F 1 dX9_goesEager_16 (by decide) ?_
  refine xj_istore_n (lv' := [(3, .int 1), (2, .int 1), (0, .ref (xad G a0)), (1, .int a1)]) F dX9_goesEager_17 (by decide) rfl ?_
  refine xj_sub (lv' := [(0, .ref (xad G a0)), (1, .int a1), (2, .int 1), (3, .int 1)]) [2, 3, 1, 0] rfl ?_
  exact jX9_goesEager_18 F hdep XF a0 a1 1 1 m3 ha0
set_option maxRecDepth 20000 in
set_option maxHeartbeats 4000000 in
theorem jX9_isOrder_37 {G : XG} {l : Launch} {d : Nat} {X : XX} (F : xF (xE G d) G X mX9_isOrder) (hdep : 0 ≤ d) {r15 : Int32 → Int32 → Int32 → Int32 → Int32 → XM → Option (Int32 × XM)} (hr15 : ∀ (x1 : Int32) (x2 : Int32) (x3 : Int32) (x4 : Int32) (x5 : Int32) (m0 : XM), xJ (xE G d) (xQ xrI G X mX9_isOrder) G l X mX9_isOrder 15 [(1, .int x1), (2, .int x2), (3, .int x3), (4, .int x4), (5, .int x5)] [] m0 (r15 x1 x2 x3 x4 x5 m0)) : ∀ (x1 : Int32) (x3 : Int32) (x4 : Int32) (x5 : Int32) (s0 : Int32) (s1 : Int32) (m0 : XM), xJ (xE G d) (xQ xrI G X mX9_isOrder) G l X mX9_isOrder 37 [(1, .int x1), (3, .int x3), (4, .int x4), (5, .int x5)] [.int s1, .int s0] m0 (fX9_isOrder_37 (xln G) r15 x1 x3 x4 x5 s0 s1 m0) := by
  intro x1 x3 x4 x5 s0 s1 m0
  unfold fX9_isOrder_37
  refine xj_ior F dX9_isOrder_37 (fun v1 => ?_)
  refine xj_istore_n (lv' := [(2, .int v1), (1, .int x1), (3, .int x3), (4, .int x4), (5, .int x5)]) F dX9_isOrder_38 (by decide) rfl ?_
  refine xj_iload_n F 2 dX9_isOrder_39 rfl ?_
  refine xj_bipush F 10 dX9_isOrder_40 (by decide) ?_
  refine xj_idiv F dX9_isOrder_42 (fun v2 => ?_)
  refine xj_istore_n (lv' := [(3, .int v2), (2, .int v1), (1, .int x1), (4, .int x4), (5, .int x5)]) F dX9_isOrder_43 (by decide) rfl ?_
  refine xj_iinc F 4 1 (fun v3 => [(5, .int v3), (3, .int v2), (2, .int v1), (1, .int x1), (4, .int x4)]) dX9_isOrder_44 rfl (by decide) (by decide) (fun _ => rfl) (fun v3 => ?_)
  refine xj_goto (tgt := 15) F dX9_isOrder_47 (by decide) ?_
  refine xj_sub (lv' := [(1, .int x1), (2, .int v1), (3, .int v2), (4, .int x4), (5, .int v3)]) [3, 2, 1, 4, 0] rfl ?_
  exact hr15 x1 v1 v2 x4 v3 m0
set_option maxRecDepth 20000 in
set_option maxHeartbeats 4000000 in
theorem jX9_isOrder_72 {G : XG} {l : Launch} {d : Nat} {X : XX} (F : xF (xE G d) G X mX9_isOrder) (hdep : 0 ≤ d) : ∀ (m0 : XM), xJ (xE G d) (xQ xrI G X mX9_isOrder) G l X mX9_isOrder 72 [] [] m0 (fX9_isOrder_72 (xln G)  m0) := by
  intro m0
  unfold fX9_isOrder_72
  refine xj_iconst F 0 dX9_isOrder_72 (by decide) ?_
  exact xj_retZ F rfl rfl dX9_isOrder_73
set_option maxRecDepth 20000 in
set_option maxHeartbeats 4000000 in
theorem jX9_isOrder_15 {G : XG} {l : Launch} {d : Nat} {X : XX} (F : xF (xE G d) G X mX9_isOrder) (hdep : 0 ≤ d) : ∀ (n : Nat) (x1 : Int32) (x2 : Int32) (x3 : Int32) (x4 : Int32) (x5 : Int32) (m0 : XM), xJ (xE G d) (xQ xrI G X mX9_isOrder) G l X mX9_isOrder 15 [(1, .int x1), (2, .int x2), (3, .int x3), (4, .int x4), (5, .int x5)] [] m0 (fX9_isOrder_15 (xln G) n x1 x2 x3 x4 x5 m0) := by
  intro n
  induction n with
  | zero => intro x1 x2 x3 x4 x5 m0; exact xj_none
  | succ n hr15 =>
    intro x1 x2 x3 x4 x5 m0
    unfold fX9_isOrder_15
    generalize hrg15 : (fun x1 x2 x3 x4 x5 m0 => fX9_isOrder_15 (xln G) n x1 x2 x3 x4 x5 m0) = r15
    have hr15 : ∀ (x1 : Int32) (x2 : Int32) (x3 : Int32) (x4 : Int32) (x5 : Int32) (m0 : XM), xJ (xE G d) (xQ xrI G X mX9_isOrder) G l X mX9_isOrder 15 [(1, .int x1), (2, .int x2), (3, .int x3), (4, .int x4), (5, .int x5)] [] m0 (r15 x1 x2 x3 x4 x5 m0) := by
      subst hrg15
      exact hr15
    clear hrg15
    refine xj_eq (xv_eq _ _) ?_
    refine xj_iload F 4 dX9_isOrder_15 rfl ?_
    refine xj_iload F 3 dX9_isOrder_17 rfl ?_
    refine xj_icmp_ge (tgt := 50) F dX9_isOrder_19 (by decide) ?_ ?_
    · refine xj_iload_n F 0 dX9_isOrder_50 rfl ?_
      refine xj_if_lt (tgt := 72) F dX9_isOrder_51 (by decide) ?_ ?_
      · refine xj_sub (lv' := []) [] rfl ?_
        exact jX9_isOrder_72 F hdep m0
      · refine xj_iload_n F 2 dX9_isOrder_54 rfl ?_
        refine xj_if_ne (tgt := 72) F dX9_isOrder_55 (by decide) ?_ ?_
        · refine xj_sub (lv' := []) [] rfl ?_
          exact jX9_isOrder_72 F hdep m0
        · refine xj_iload_n F 1 dX9_isOrder_58 rfl ?_
          refine xj_iconst F 1 dX9_isOrder_59 (by decide) ?_
          refine xj_iload F 3 dX9_isOrder_60 rfl ?_
          refine xj_ishl F dX9_isOrder_62 (fun v1 => ?_)
          refine xj_iconst F 1 dX9_isOrder_63 (by decide) ?_
          refine xj_isub F dX9_isOrder_64 (fun v2 => ?_)
          refine xj_icmp_ne (tgt := 72) F dX9_isOrder_65 (by decide) ?_ ?_
          · refine xj_sub (lv' := []) [] rfl ?_
            exact jX9_isOrder_72 F hdep m0
          · refine xj_iconst F 1 dX9_isOrder_68 (by decide) ?_
            refine xj_goto (tgt := 73) F dX9_isOrder_69 (by decide) ?_
            exact xj_retZ F rfl rfl dX9_isOrder_73
    · refine xj_iload_n F 1 dX9_isOrder_22 rfl ?_
      refine xj_iload_n F 2 dX9_isOrder_23 rfl ?_
      refine xj_if_ge (tgt := 31) F dX9_isOrder_24 (by decide) ?_ ?_
      · refine xj_iconst F 1 dX9_isOrder_31 (by decide) ?_
        refine xj_iload_n F 2 dX9_isOrder_32 rfl ?_
        refine xj_bipush F 10 dX9_isOrder_33 (by decide) ?_
        refine xj_irem F dX9_isOrder_35 (fun v3 => ?_)
        refine xj_ishl F dX9_isOrder_36 (fun v4 => ?_)
        refine xj_sub (lv' := [(1, .int x1), (3, .int x3), (4, .int x4), (5, .int x5)]) [0, 2, 3, 4] rfl ?_
        exact jX9_isOrder_37 F hdep hr15 x1 x3 x4 x5 x2 v4 m0
      · refine xj_iconst F 0 dX9_isOrder_27 (by decide) ?_
        refine xj_goto (tgt := 37) F dX9_isOrder_28 (by decide) ?_
        refine xj_sub (lv' := [(1, .int x1), (3, .int x3), (4, .int x4), (5, .int x5)]) [0, 2, 3, 4] rfl ?_
        exact jX9_isOrder_37 F hdep hr15 x1 x3 x4 x5 x2 0 m0
set_option maxRecDepth 20000 in
set_option maxHeartbeats 4000000 in
theorem wX9_isOrder {G : XG} {l : Launch} {d : Nat} (hn : xN G) (hdep : 0 ≤ d) {m0 : XM} (hT : xT G m0) {a0 : Nat} {a1 : Int32} (ha0 : isa G a0 9) : ∀ z, fX9_isOrder (xln G) a0 a1 m0 = some z → xMet G l mX9_isOrder d [.ref (xad G a0), .int a1] m0 (xrI z) := by
  refine xMet_of (by decide +kernel) hn hT (Nat.le_of_ble_eq_true rfl) (fun X F => ?_)
  refine xj_sub (lv' := [(0, .ref (xad G a0)), (1, .int a1)]) [0, 1] rfl ?_
  unfold fX9_isOrder
  refine xj_iconst F 0 dX9_isOrder_0 (by decide) ?_
  refine xj_istore_n (lv' := [(2, .int 0), (0, .ref (xad G a0)), (1, .int a1)]) F dX9_isOrder_1 (by decide) rfl ?_
  refine xj_iload_n F 2 dX9_isOrder_2 rfl ?_
  refine xj_istore_n (lv' := [(3, .int a1), (2, .int 0), (0, .ref (xad G a0)), (1, .int a1)]) F dX9_isOrder_3 (by decide) rfl ?_
  refine xj_aload_n F 2 dX9_isOrder_4 rfl ?_
  refine xj_getR F ha0 lgX9_20 dX9_isOrder_5 (fun u1 hu1 => ?_)
  refine xj_iconst F 0 dX9_isOrder_8 (by decide) ?_
  refine xj_iald F hu1 dX9_isOrder_9 (fun v2 => ?_)
  refine xj_istore (lv' := [(4, .int v2), (3, .int a1), (2, .int 0), (0, .ref (xad G a0)), (1, .int a1)]) F dX9_isOrder_10 (by decide) rfl ?_
  refine xj_iconst F 0 dX9_isOrder_12 (by decide) ?_
  refine xj_istore (lv' := [(5, .int 0), (4, .int v2), (3, .int a1), (2, .int 0), (0, .ref (xad G a0)), (1, .int a1)]) F dX9_isOrder_13 (by decide) rfl ?_
  refine xj_sub (lv' := [(1, .int a1), (2, .int 0), (3, .int a1), (4, .int v2), (5, .int 0)]) [5, 3, 2, 1, 0] rfl ?_
  exact jX9_isOrder_15 F hdep XF a1 0 a1 v2 0 m0
set_option maxRecDepth 20000 in
set_option maxHeartbeats 4000000 in
theorem jX9_told_59 {G : XG} {l : Launch} {d : Nat} {X : XX} (F : xF (xE G d) G X mX9_told) (hdep : 1 ≤ d) {r34 : Nat → Int32 → Int32 → Int32 → XM → Option (Int32 × XM)} (hr34 : ∀ (q0 : Nat) (x1 : Int32) (x2 : Int32) (x3 : Int32) (m0 : XM), isa G q0 9 → xJ (xE G d) (xQ xrI G X mX9_told) G l X mX9_told 34 [(0, .ref (xad G q0)), (1, .int x1), (2, .int x2), (3, .int x3)] [] m0 (r34 q0 x1 x2 x3 m0)) : ∀ (q0 : Nat) (x1 : Int32) (x3 : Int32) (s0 : Int32) (s1 : Int32) (m0 : XM), isa G q0 9 → xJ (xE G d) (xQ xrI G X mX9_told) G l X mX9_told 59 [(0, .ref (xad G q0)), (1, .int x1), (3, .int x3)] [.int s1, .int s0] m0 (fX9_told_59 (xln G) r34 q0 x1 x3 s0 s1 m0) := by
  intro q0 x1 x3 s0 s1 m0 hq0
  unfold fX9_told_59
  refine xj_iadd F dX9_told_59 (fun v1 => ?_)
  refine xj_istore_n (lv' := [(2, .int v1), (0, .ref (xad G q0)), (1, .int x1), (3, .int x3)]) F dX9_told_60 (by decide) rfl ?_
  refine xj_iinc F 3 1 (fun v2 => [(3, .int v2), (2, .int v1), (0, .ref (xad G q0)), (1, .int x1)]) dX9_told_61 rfl (by decide) (by decide) (fun _ => rfl) (fun v2 => ?_)
  refine xj_goto (tgt := 34) F dX9_told_64 (by decide) ?_
  refine xj_sub (lv' := [(0, .ref (xad G q0)), (1, .int x1), (2, .int v1), (3, .int v2)]) [2, 3, 1, 0] rfl ?_
  exact hr34 q0 x1 v1 v2 m0 hq0
set_option maxRecDepth 20000 in
set_option maxHeartbeats 4000000 in
theorem jX9_told_34 {G : XG} {l : Launch} {d : Nat} {X : XX} (F : xF (xE G d) G X mX9_told) (hdep : 1 ≤ d) : ∀ (n : Nat) (q0 : Nat) (x1 : Int32) (x2 : Int32) (x3 : Int32) (m0 : XM), isa G q0 9 → xJ (xE G d) (xQ xrI G X mX9_told) G l X mX9_told 34 [(0, .ref (xad G q0)), (1, .int x1), (2, .int x2), (3, .int x3)] [] m0 (fX9_told_34 (xln G) n q0 x1 x2 x3 m0) := by
  intro n
  induction n with
  | zero => intro q0 x1 x2 x3 m0 hq0; exact xj_none
  | succ n hr34 =>
    intro q0 x1 x2 x3 m0 hq0
    unfold fX9_told_34
    generalize hrg34 : (fun q0 x1 x2 x3 m0 => fX9_told_34 (xln G) n q0 x1 x2 x3 m0) = r34
    have hr34 : ∀ (q0 : Nat) (x1 : Int32) (x2 : Int32) (x3 : Int32) (m0 : XM), isa G q0 9 → xJ (xE G d) (xQ xrI G X mX9_told) G l X mX9_told 34 [(0, .ref (xad G q0)), (1, .int x1), (2, .int x2), (3, .int x3)] [] m0 (r34 q0 x1 x2 x3 m0) := by
      subst hrg34
      exact hr34
    clear hrg34
    refine xj_eq (xv_eq _ _) ?_
    refine xj_iload_n F 3 dX9_told_34 rfl ?_
    refine xj_aload_n F 0 dX9_told_35 rfl ?_
    refine xj_getR F hq0 lgX9_20 dX9_told_36 (fun u1 hu1 => ?_)
    refine xj_iconst F 1 dX9_told_39 (by decide) ?_
    refine xj_iald F hu1 dX9_told_40 (fun v2 => ?_)
    refine xj_icmp_ge (tgt := 67) F dX9_told_41 (by decide) ?_ ?_
    · refine xj_iload_n F 1 dX9_told_67 rfl ?_
      refine xj_if_ne (tgt := 80) F dX9_told_68 (by decide) ?_ ?_
      · refine xj_iload_n F 1 dX9_told_80 rfl ?_
        refine xj_iconst F 1 dX9_told_81 (by decide) ?_
        refine xj_icmp_ne (tgt := 94) F dX9_told_82 (by decide) ?_ ?_
        · refine xj_iload_n F 1 dX9_told_94 rfl ?_
          refine xj_iconst F 2 dX9_told_95 (by decide) ?_
          refine xj_icmp_ne (tgt := 108) F dX9_told_96 (by decide) ?_ ?_
          · refine xj_iload_n F 1 dX9_told_108 rfl ?_
            refine xj_iconst F 3 dX9_told_109 (by decide) ?_
            refine xj_icmp_ne (tgt := 117) F dX9_told_110 (by decide) ?_ ?_
            · refine xj_iload_n F 1 dX9_told_117 rfl ?_
              refine xj_iconst F 4 dX9_told_118 (by decide) ?_
              refine xj_icmp_ne (tgt := 129) F dX9_told_119 (by decide) ?_ ?_
              · refine xj_aload_n F 0 dX9_told_129 rfl ?_
                refine xj_get F hq0 lgX9_276 dX9_told_130 (fun v3 => ?_)
                exact xj_ret F rfl dX9_told_133
              · refine xj_aload_n F 0 dX9_told_122 rfl ?_
                refine xj_get F hq0 lgX9_94 dX9_told_123 (fun v4 => ?_)
                refine xj_goto (tgt := 133) F dX9_told_126 (by decide) ?_
                exact xj_ret F rfl dX9_told_133
            · refine xj_iload_n F 2 dX9_told_113 rfl ?_
              refine xj_goto (tgt := 133) F dX9_told_114 (by decide) ?_
              exact xj_ret F rfl dX9_told_133
          · refine xj_aload_n F 0 dX9_told_99 rfl ?_
            refine xj_getR F hq0 lgX9_20 dX9_told_100 (fun u5 hu5 => ?_)
            refine xj_iconst F 1 dX9_told_103 (by decide) ?_
            refine xj_iald F hu5 dX9_told_104 (fun v6 => ?_)
            refine xj_goto (tgt := 133) F dX9_told_105 (by decide) ?_
            exact xj_ret F rfl dX9_told_133
        · refine xj_aload_n F 0 dX9_told_85 rfl ?_
          refine xj_getR F hq0 lgX9_20 dX9_told_86 (fun u7 hu7 => ?_)
          refine xj_iconst F 4 dX9_told_89 (by decide) ?_
          refine xj_iald F hu7 dX9_told_90 (fun v8 => ?_)
          refine xj_goto (tgt := 133) F dX9_told_91 (by decide) ?_
          exact xj_ret F rfl dX9_told_133
      · refine xj_aload_n F 0 dX9_told_71 rfl ?_
        refine xj_getR F hq0 lgX9_20 dX9_told_72 (fun u9 hu9 => ?_)
        refine xj_iconst F 0 dX9_told_75 (by decide) ?_
        refine xj_iald F hu9 dX9_told_76 (fun v10 => ?_)
        refine xj_goto (tgt := 133) F dX9_told_77 (by decide) ?_
        exact xj_ret F rfl dX9_told_133
    · refine xj_iload_n F 2 dX9_told_44 rfl ?_
      refine xj_aload_n F 0 dX9_told_45 rfl ?_
      refine xj_getR F hq0 lgX9_26 dX9_told_46 (fun u11 hu11 => ?_)
      refine xj_iload_n F 3 dX9_told_49 rfl ?_
      refine xj_zald F hu11 dX9_told_50 (fun v12 => ?_)
      refine xj_if_eq (tgt := 58) F dX9_told_51 (by decide) ?_ ?_
      · refine xj_iconst F 1 dX9_told_58 (by decide) ?_
        refine xj_sub (lv' := [(0, .ref (xad G q0)), (1, .int x1), (3, .int x3)]) [0, 1, 3] rfl ?_
        exact jX9_told_59 F hdep hr34 q0 x1 x3 x2 1 m0 hq0
      · refine xj_iconst F 0 dX9_told_54 (by decide) ?_
        refine xj_goto (tgt := 59) F dX9_told_55 (by decide) ?_
        refine xj_sub (lv' := [(0, .ref (xad G q0)), (1, .int x1), (3, .int x3)]) [0, 1, 3] rfl ?_
        exact jX9_told_59 F hdep hr34 q0 x1 x3 x2 0 m0 hq0
set_option maxRecDepth 20000 in
set_option maxHeartbeats 4000000 in
theorem jX9_told_20 {G : XG} {l : Launch} {d : Nat} {X : XX} (F : xF (xE G d) G X mX9_told) (hdep : 1 ≤ d) : ∀ (q0 : Nat) (x1 : Int32) (p0 : Nat) (s1 : Int32) (m0 : XM), isa G q0 9 → isa G p0 9 → xJ (xE G d) (xQ xrI G X mX9_told) G l X mX9_told 20 [(0, .ref (xad G q0)), (1, .int x1)] [.int s1, .ref (xad G p0)] m0 (fX9_told_20 (xln G) q0 x1 p0 s1 m0) := by
  intro q0 x1 p0 s1 m0 hq0 hp0
  unfold fX9_told_20
  refine xj_iconst F 1 dX9_told_20 (by decide) ?_
  refine xj_iconst F 1 dX9_told_21 (by decide) ?_
  refine xj_callVI (b := p0) (As := [.int s1, .int 1, .int 1]) (d' := 0) F hp0 lmX9_257 rfl rfl (Nat.le_of_ble_eq_true rfl) (xfit (Nat.le_trans (Nat.le_of_ble_eq_true rfl) hdep)) dX9_told_22 (fun hT z hz => wX9_bad (xnd F) (Nat.le_refl _) hT (a0 := p0) (a1 := s1) (a2 := 1) (a3 := 1) hp0 z hz) (fun v2 m1 => ?_)
  refine xj_if_eq (tgt := 30) F dX9_told_25 (by decide) ?_ ?_
  · refine xj_iconst F 0 dX9_told_30 (by decide) ?_
    refine xj_istore_n (lv' := [(2, .int 0), (0, .ref (xad G q0)), (1, .int x1)]) F dX9_told_31 (by decide) rfl ?_
    refine xj_iconst F 0 dX9_told_32 (by decide) ?_
    refine xj_istore_n (lv' := [(3, .int 0), (2, .int 0), (0, .ref (xad G q0)), (1, .int x1)]) F dX9_told_33 (by decide) rfl ?_
    refine xj_sub (lv' := [(0, .ref (xad G q0)), (1, .int x1), (2, .int 0), (3, .int 0)]) [2, 3, 1, 0] rfl ?_
    exact jX9_told_34 F hdep XF q0 x1 0 0 m1 hq0
  · refine xj_iconst F 0 dX9_told_28 (by decide) ?_
    exact xj_ret F rfl dX9_told_29
set_option maxRecDepth 20000 in
set_option maxHeartbeats 4000000 in
theorem wX9_told {G : XG} {l : Launch} {d : Nat} (hn : xN G) (hdep : 1 ≤ d) {m0 : XM} (hT : xT G m0) {a0 : Nat} {a1 : Int32} (ha0 : isa G a0 9) : ∀ z, fX9_told (xln G) a0 a1 m0 = some z → xMet G l mX9_told d [.ref (xad G a0), .int a1] m0 (xrI z) := by
  refine xMet_of (by decide +kernel) hn hT (Nat.le_of_ble_eq_true rfl) (fun X F => ?_)
  refine xj_sub (lv' := [(0, .ref (xad G a0)), (1, .int a1)]) [0, 1] rfl ?_
  unfold fX9_told
  refine xj_aload_n F 0 dX9_told_0 rfl ?_
  refine xj_iconst F 0 dX9_told_1 (by decide) ?_
  refine xj_put F ha0 lpX9_91 dX9_told_2 (fun m1 => ?_)
  refine xj_aload_n F 0 dX9_told_5 rfl ?_
  refine xj_iload_n F 1 dX9_told_6 rfl ?_
  refine xj_iconst F 0 dX9_told_7 (by decide) ?_
  refine xj_iconst F 5 dX9_told_8 (by decide) ?_
  refine xj_callSI (As := [.int a1, .int 0, .int 5]) (d' := 0) F lmX9_155 rfl rfl (Nat.le_of_ble_eq_true rfl) (xfit (Nat.le_trans (Nat.le_of_ble_eq_true rfl) hdep)) dX9_told_9 (fun hT z hz => wX9_in (xnd F) (Nat.le_refl _) hT (a0 := a1) (a1 := 0) (a2 := 5)  z hz) (fun v3 m2 => ?_)
  refine xj_if_ne (tgt := 19) F dX9_told_12 (by decide) ?_ ?_
  · refine xj_iconst F 0 dX9_told_19 (by decide) ?_
    exact jX9_told_20 F hdep a0 a1 a0 0 m2 ha0 ha0
  · refine xj_iconst F 1 dX9_told_15 (by decide) ?_
    refine xj_goto (tgt := 20) F dX9_told_16 (by decide) ?_
    exact jX9_told_20 F hdep a0 a1 a0 1 m2 ha0 ha0
set_option maxRecDepth 20000 in
set_option maxHeartbeats 4000000 in
theorem jX9_manyOf_47 {G : XG} {l : Launch} {d : Nat} {X : XX} (F : xF (xE G d) G X mX9_manyOf) (hdep : 1 ≤ d) {r5 : Nat → Int32 → Int32 → Int32 → Int32 → XM → Option (Int32 × XM)} (hr5 : ∀ (q0 : Nat) (x1 : Int32) (x2 : Int32) (x3 : Int32) (x4 : Int32) (m0 : XM), isa G q0 9 → xJ (xE G d) (xQ xrI G X mX9_manyOf) G l X mX9_manyOf 5 [(0, .ref (xad G q0)), (1, .int x1), (2, .int x2), (3, .int x3), (4, .int x4)] [] m0 (r5 q0 x1 x2 x3 x4 m0)) : ∀ (q0 : Nat) (x1 : Int32) (x2 : Int32) (x4 : Int32) (s0 : Int32) (s1 : Int32) (m0 : XM), isa G q0 9 → xJ (xE G d) (xQ xrI G X mX9_manyOf) G l X mX9_manyOf 47 [(0, .ref (xad G q0)), (1, .int x1), (2, .int x2), (4, .int x4)] [.int s1, .int s0] m0 (fX9_manyOf_47 (xln G) r5 q0 x1 x2 x4 s0 s1 m0) := by
  intro q0 x1 x2 x4 s0 s1 m0 hq0
  unfold fX9_manyOf_47
  refine xj_iadd F dX9_manyOf_47 (fun v1 => ?_)
  refine xj_istore_n (lv' := [(3, .int v1), (0, .ref (xad G q0)), (1, .int x1), (2, .int x2), (4, .int x4)]) F dX9_manyOf_48 (by decide) rfl ?_
  refine xj_iinc F 4 1 (fun v2 => [(4, .int v2), (3, .int v1), (0, .ref (xad G q0)), (1, .int x1), (2, .int x2)]) dX9_manyOf_49 rfl (by decide) (by decide) (fun _ => rfl) (fun v2 => ?_)
  refine xj_goto (tgt := 5) F dX9_manyOf_52 (by decide) ?_
  refine xj_sub (lv' := [(0, .ref (xad G q0)), (1, .int x1), (2, .int x2), (3, .int v1), (4, .int v2)]) [2, 3, 4, 1, 0] rfl ?_
  exact hr5 q0 x1 x2 v1 v2 m0 hq0
set_option maxRecDepth 20000 in
set_option maxHeartbeats 4000000 in
theorem jX9_manyOf_5 {G : XG} {l : Launch} {d : Nat} {X : XX} (F : xF (xE G d) G X mX9_manyOf) (hdep : 1 ≤ d) : ∀ (n : Nat) (q0 : Nat) (x1 : Int32) (x2 : Int32) (x3 : Int32) (x4 : Int32) (m0 : XM), isa G q0 9 → xJ (xE G d) (xQ xrI G X mX9_manyOf) G l X mX9_manyOf 5 [(0, .ref (xad G q0)), (1, .int x1), (2, .int x2), (3, .int x3), (4, .int x4)] [] m0 (fX9_manyOf_5 (xln G) n q0 x1 x2 x3 x4 m0) := by
  intro n
  induction n with
  | zero => intro q0 x1 x2 x3 x4 m0 hq0; exact xj_none
  | succ n hr5 =>
    intro q0 x1 x2 x3 x4 m0 hq0
    unfold fX9_manyOf_5
    generalize hrg5 : (fun q0 x1 x2 x3 x4 m0 => fX9_manyOf_5 (xln G) n q0 x1 x2 x3 x4 m0) = r5
    have hr5 : ∀ (q0 : Nat) (x1 : Int32) (x2 : Int32) (x3 : Int32) (x4 : Int32) (m0 : XM), isa G q0 9 → xJ (xE G d) (xQ xrI G X mX9_manyOf) G l X mX9_manyOf 5 [(0, .ref (xad G q0)), (1, .int x1), (2, .int x2), (3, .int x3), (4, .int x4)] [] m0 (r5 q0 x1 x2 x3 x4 m0) := by
      subst hrg5
      exact hr5
    clear hrg5
    refine xj_eq (xv_eq _ _) ?_
    refine xj_iload F 4 dX9_manyOf_5 rfl ?_
    refine xj_aload_n F 0 dX9_manyOf_7 rfl ?_
    refine xj_getR F hq0 lgX9_20 dX9_manyOf_8 (fun u1 hu1 => ?_)
    refine xj_iload_n F 1 dX9_manyOf_11 rfl ?_
    refine xj_iconst F 2 dX9_manyOf_12 (by decide) ?_
    refine xj_callSI (As := [.ref (xad G u1), .int x1, .int 2]) (d' := 0) F lmX9_97 rfl rfl (Nat.le_of_ble_eq_true rfl) (xfit (Nat.le_trans (Nat.le_of_ble_eq_true rfl) hdep)) dX9_manyOf_13 (fun hT z hz => wX9_unitOf (xnd F) (Nat.le_refl _) hT (a0 := u1) (a1 := x1) (a2 := 2) hu1 z hz) (fun v3 m2 => ?_)
    refine xj_icmp_ge (tgt := 55) F dX9_manyOf_16 (by decide) ?_ ?_
    · refine xj_iload_n F 3 dX9_manyOf_55 rfl ?_
      exact xj_ret F rfl dX9_manyOf_56
    · refine xj_iload_n F 3 dX9_manyOf_19 rfl ?_
      refine xj_aload_n F 0 dX9_manyOf_20 rfl ?_
      refine xj_getR F hq0 lgX9_20 dX9_manyOf_21 (fun u4 hu4 => ?_)
      refine xj_aload_n F 0 dX9_manyOf_24 rfl ?_
      refine xj_getR F hq0 lgX9_20 dX9_manyOf_25 (fun u5 hu5 => ?_)
      refine xj_iload_n F 1 dX9_manyOf_28 rfl ?_
      refine xj_iload F 4 dX9_manyOf_29 rfl ?_
      refine xj_callSI (As := [.ref (xad G u5), .int x1, .int x4]) (d' := 0) F lmX9_101 rfl rfl (Nat.le_of_ble_eq_true rfl) (xfit (Nat.le_trans (Nat.le_of_ble_eq_true rfl) hdep)) dX9_manyOf_31 (fun hT z hz => wX9_memberAt (xnd F) (Nat.le_refl _) hT (a0 := u5) (a1 := x1) (a2 := x4) hu5 z hz) (fun v7 m6 => ?_)
      refine xj_iconst F 0 dX9_manyOf_34 (by decide) ?_
      refine xj_callSI (As := [.ref (xad G u4), .int v7, .int 0]) (d' := 0) F lmX9_104 rfl rfl (Nat.le_of_ble_eq_true rfl) (xfit (Nat.le_trans (Nat.le_of_ble_eq_true rfl) hdep)) dX9_manyOf_35 (fun hT z hz => wX9_ofMember (xnd F) (Nat.le_refl _) hT (a0 := u4) (a1 := v7) (a2 := 0) hu4 z hz) (fun v9 m8 => ?_)
      refine xj_iload_n F 2 dX9_manyOf_38 rfl ?_
      refine xj_icmp_ne (tgt := 46) F dX9_manyOf_39 (by decide) ?_ ?_
      · refine xj_iconst F 0 dX9_manyOf_46 (by decide) ?_
        refine xj_sub (lv' := [(0, .ref (xad G q0)), (1, .int x1), (2, .int x2), (4, .int x4)]) [0, 1, 2, 4] rfl ?_
        exact jX9_manyOf_47 F hdep hr5 q0 x1 x2 x4 x3 0 m8 hq0
      · refine xj_iconst F 1 dX9_manyOf_42 (by decide) ?_
        refine xj_goto (tgt := 47) F dX9_manyOf_43 (by decide) ?_
        refine xj_sub (lv' := [(0, .ref (xad G q0)), (1, .int x1), (2, .int x2), (4, .int x4)]) [0, 1, 2, 4] rfl ?_
        exact jX9_manyOf_47 F hdep hr5 q0 x1 x2 x4 x3 1 m8 hq0
set_option maxRecDepth 20000 in
set_option maxHeartbeats 4000000 in
theorem wX9_manyOf {G : XG} {l : Launch} {d : Nat} (hn : xN G) (hdep : 1 ≤ d) {m0 : XM} (hT : xT G m0) {a0 : Nat} {a1 : Int32} {a2 : Int32} (ha0 : isa G a0 9) : ∀ z, fX9_manyOf (xln G) a0 a1 a2 m0 = some z → xMet G l mX9_manyOf d [.ref (xad G a0), .int a1, .int a2] m0 (xrI z) := by
  refine xMet_of (by decide +kernel) hn hT (Nat.le_of_ble_eq_true rfl) (fun X F => ?_)
  refine xj_sub (lv' := [(0, .ref (xad G a0)), (1, .int a1), (2, .int a2)]) [0, 1, 2] rfl ?_
  unfold fX9_manyOf
  refine xj_iconst F 0 dX9_manyOf_0 (by decide) ?_
  refine xj_istore_n (lv' := [(3, .int 0), (0, .ref (xad G a0)), (1, .int a1), (2, .int a2)]) F dX9_manyOf_1 (by decide) rfl ?_
  refine xj_iconst F 0 dX9_manyOf_2 (by decide) ?_
  refine xj_istore (lv' := [(4, .int 0), (3, .int 0), (0, .ref (xad G a0)), (1, .int a1), (2, .int a2)]) F dX9_manyOf_3 (by decide) rfl ?_
  refine xj_sub (lv' := [(0, .ref (xad G a0)), (1, .int a1), (2, .int a2), (3, .int 0), (4, .int 0)]) [2, 3, 4, 1, 0] rfl ?_
  exact jX9_manyOf_5 F hdep XF a0 a1 a2 0 0 m0 ha0
set_option maxRecDepth 20000 in
set_option maxHeartbeats 4000000 in
theorem jX9_unit_81 {G : XG} {l : Launch} {d : Nat} {X : XX} (F : xF (xE G d) G X mX9_unit) (hdep : 2 ≤ d) : ∀ (p0 : Nat) (s1 : Int32) (s2 : Int32) (m0 : XM), isa G p0 9 → xJ (xE G d) (xQ xrI G X mX9_unit) G l X mX9_unit 81 [] [.int s2, .int s1, .ref (xad G p0)] m0 (fX9_unit_81 (xln G) p0 s1 s2 m0) := by
  intro p0 s1 s2 m0 hp0
  unfold fX9_unit_81
  refine xj_callVI (b := p0) (As := [.int s1, .int s2]) (d' := 1) F hp0 lmX9_373 rfl rfl (Nat.le_of_ble_eq_true rfl) (xfit (Nat.le_trans (Nat.le_of_ble_eq_true rfl) hdep)) dX9_unit_81 (fun hT z hz => wX9_manyOf (xnd F) (Nat.le_refl _) hT (a0 := p0) (a1 := s1) (a2 := s2) hp0 z hz) (fun v2 m1 => ?_)
  exact xj_ret F rfl dX9_unit_84
set_option maxRecDepth 20000 in
set_option maxHeartbeats 4000000 in
theorem jX9_unit_42 {G : XG} {l : Launch} {d : Nat} {X : XX} (F : xF (xE G d) G X mX9_unit) (hdep : 2 ≤ d) : ∀ (q0 : Nat) (x1 : Int32) (x2 : Int32) (p0 : Nat) (s1 : Int32) (m0 : XM), isa G q0 9 → isa G p0 9 → xJ (xE G d) (xQ xrI G X mX9_unit) G l X mX9_unit 42 [(0, .ref (xad G q0)), (1, .int x1), (2, .int x2)] [.int s1, .ref (xad G p0)] m0 (fX9_unit_42 (xln G) q0 x1 x2 p0 s1 m0) := by
  intro q0 x1 x2 p0 s1 m0 hq0 hp0
  unfold fX9_unit_42
  refine xj_iconst F 2 dX9_unit_42 (by decide) ?_
  refine xj_iconst F 1 dX9_unit_43 (by decide) ?_
  refine xj_callVI (b := p0) (As := [.int s1, .int 2, .int 1]) (d' := 0) F hp0 lmX9_257 rfl rfl (Nat.le_of_ble_eq_true rfl) (xfit (Nat.le_trans (Nat.le_of_ble_eq_true rfl) hdep)) dX9_unit_44 (fun hT z hz => wX9_bad (xnd F) (Nat.le_refl _) hT (a0 := p0) (a1 := s1) (a2 := 2) (a3 := 1) hp0 z hz) (fun v2 m1 => ?_)
  refine xj_if_eq (tgt := 52) F dX9_unit_47 (by decide) ?_ ?_
  · refine xj_iload_n F 2 dX9_unit_52 rfl ?_
    refine xj_iconst F 3 dX9_unit_53 (by decide) ?_
    refine xj_icmp_ge (tgt := 69) F dX9_unit_54 (by decide) ?_ ?_
    · refine xj_aload_n F 0 dX9_unit_69 rfl ?_
      refine xj_iload_n F 1 dX9_unit_70 rfl ?_
      refine xj_iload_n F 2 dX9_unit_71 rfl ?_
      refine xj_iconst F 3 dX9_unit_72 (by decide) ?_
      refine xj_icmp_ne (tgt := 80) F dX9_unit_73 (by decide) ?_ ?_
      · refine xj_iconst F 4 dX9_unit_80 (by decide) ?_
        refine xj_sub (lv' := []) [] rfl ?_
        exact jX9_unit_81 F hdep q0 x1 4 m1 hq0
      · refine xj_iconst F 1 dX9_unit_76 (by decide) ?_
        refine xj_goto (tgt := 81) F dX9_unit_77 (by decide) ?_
        refine xj_sub (lv' := []) [] rfl ?_
        exact jX9_unit_81 F hdep q0 x1 1 m1 hq0
    · refine xj_aload_n F 0 dX9_unit_57 rfl ?_
      refine xj_getR F hq0 lgX9_20 dX9_unit_58 (fun u3 hu3 => ?_)
      refine xj_iload_n F 1 dX9_unit_61 rfl ?_
      refine xj_iload_n F 2 dX9_unit_62 rfl ?_
      refine xj_callSI (As := [.ref (xad G u3), .int x1, .int x2]) (d' := 0) F lmX9_97 rfl rfl (Nat.le_of_ble_eq_true rfl) (xfit (Nat.le_trans (Nat.le_of_ble_eq_true rfl) hdep)) dX9_unit_63 (fun hT z hz => wX9_unitOf (xnd F) (Nat.le_refl _) hT (a0 := u3) (a1 := x1) (a2 := x2) hu3 z hz) (fun v5 m4 => ?_)
      refine xj_goto (tgt := 84) F dX9_unit_66 (by decide) ?_
      exact xj_ret F rfl dX9_unit_84
  · refine xj_iconst F 0 dX9_unit_50 (by decide) ?_
    exact xj_ret F rfl dX9_unit_51
set_option maxRecDepth 20000 in
set_option maxHeartbeats 4000000 in
theorem jX9_unit_19 {G : XG} {l : Launch} {d : Nat} {X : XX} (F : xF (xE G d) G X mX9_unit) (hdep : 2 ≤ d) : ∀ (q0 : Nat) (x1 : Int32) (x2 : Int32) (p0 : Nat) (s1 : Int32) (m0 : XM), isa G q0 9 → isa G p0 9 → xJ (xE G d) (xQ xrI G X mX9_unit) G l X mX9_unit 19 [(0, .ref (xad G q0)), (1, .int x1), (2, .int x2)] [.int s1, .ref (xad G p0)] m0 (fX9_unit_19 (xln G) q0 x1 x2 p0 s1 m0) := by
  intro q0 x1 x2 p0 s1 m0 hq0 hp0
  unfold fX9_unit_19
  refine xj_iconst F 1 dX9_unit_19 (by decide) ?_
  refine xj_iconst F 0 dX9_unit_20 (by decide) ?_
  refine xj_callVI (b := p0) (As := [.int s1, .int 1, .int 0]) (d' := 0) F hp0 lmX9_257 rfl rfl (Nat.le_of_ble_eq_true rfl) (xfit (Nat.le_trans (Nat.le_of_ble_eq_true rfl) hdep)) dX9_unit_21 (fun hT z hz => wX9_bad (xnd F) (Nat.le_refl _) hT (a0 := p0) (a1 := s1) (a2 := 1) (a3 := 0) hp0 z hz) (fun v2 m1 => ?_)
  refine xj_if_ne (tgt := 50) F dX9_unit_24 (by decide) ?_ ?_
  · refine xj_iconst F 0 dX9_unit_50 (by decide) ?_
    exact xj_ret F rfl dX9_unit_51
  · refine xj_aload_n F 0 dX9_unit_27 rfl ?_
    refine xj_iload_n F 2 dX9_unit_28 rfl ?_
    refine xj_iconst F 0 dX9_unit_29 (by decide) ?_
    refine xj_iconst F 4 dX9_unit_30 (by decide) ?_
    refine xj_callSI (As := [.int x2, .int 0, .int 4]) (d' := 0) F lmX9_155 rfl rfl (Nat.le_of_ble_eq_true rfl) (xfit (Nat.le_trans (Nat.le_of_ble_eq_true rfl) hdep)) dX9_unit_31 (fun hT z hz => wX9_in (xnd F) (Nat.le_refl _) hT (a0 := x2) (a1 := 0) (a2 := 4)  z hz) (fun v4 m3 => ?_)
    refine xj_if_ne (tgt := 41) F dX9_unit_34 (by decide) ?_ ?_
    · refine xj_iconst F 0 dX9_unit_41 (by decide) ?_
      exact jX9_unit_42 F hdep q0 x1 x2 q0 0 m3 hq0 hq0
    · refine xj_iconst F 1 dX9_unit_37 (by decide) ?_
      refine xj_goto (tgt := 42) F dX9_unit_38 (by decide) ?_
      exact jX9_unit_42 F hdep q0 x1 x2 q0 1 m3 hq0 hq0
set_option maxRecDepth 20000 in
set_option maxHeartbeats 4000000 in
theorem wX9_unit {G : XG} {l : Launch} {d : Nat} (hn : xN G) (hdep : 2 ≤ d) {m0 : XM} (hT : xT G m0) {a0 : Nat} {a1 : Int32} {a2 : Int32} (ha0 : isa G a0 9) : ∀ z, fX9_unit (xln G) a0 a1 a2 m0 = some z → xMet G l mX9_unit d [.ref (xad G a0), .int a1, .int a2] m0 (xrI z) := by
  refine xMet_of (by decide +kernel) hn hT (Nat.le_of_ble_eq_true rfl) (fun X F => ?_)
  refine xj_sub (lv' := [(0, .ref (xad G a0)), (1, .int a1), (2, .int a2)]) [0, 1, 2] rfl ?_
  unfold fX9_unit
  refine xj_aload_n F 0 dX9_unit_0 rfl ?_
  refine xj_iconst F 0 dX9_unit_1 (by decide) ?_
  refine xj_put F ha0 lpX9_91 dX9_unit_2 (fun m1 => ?_)
  refine xj_aload_n F 0 dX9_unit_5 rfl ?_
  refine xj_aload_n F 0 dX9_unit_6 rfl ?_
  refine xj_iload_n F 1 dX9_unit_7 rfl ?_
  refine xj_callVI (b := a0) (As := [.int a1]) (d' := 1) F ha0 lmX9_283 rfl rfl (Nat.le_of_ble_eq_true rfl) (xfit (Nat.le_trans (Nat.le_of_ble_eq_true rfl) hdep)) dX9_unit_8 (fun hT z hz => wX9_isUnit (xnd F) (Nat.le_refl _) hT (a0 := a0) (a1 := a1) ha0 z hz) (fun v3 m2 => ?_)
  refine xj_if_ne (tgt := 18) F dX9_unit_11 (by decide) ?_ ?_
  · refine xj_iconst F 0 dX9_unit_18 (by decide) ?_
    exact jX9_unit_19 F hdep a0 a1 a2 a0 0 m2 ha0 ha0
  · refine xj_iconst F 1 dX9_unit_14 (by decide) ?_
    refine xj_goto (tgt := 19) F dX9_unit_15 (by decide) ?_
    exact jX9_unit_19 F hdep a0 a1 a2 a0 1 m2 ha0 ha0
set_option maxRecDepth 20000 in
set_option maxHeartbeats 4000000 in
theorem jX9_termsOf_40 {G : XG} {l : Launch} {d : Nat} {X : XX} (F : xF (xE G d) G X mX9_termsOf) (hdep : 1 ≤ d) {e : Nat} {R : Nat → Nat → Int32 → XM → Option (Int32 × XM)} (hge : e + 0 + 1 ≤ d) (hR0 : ∀ {m0 : XM}, xT G m0 → ∀ {q : Nat}, isa G q 9 → ∀ (x0 : Int32) (z : Int32 × XM), R 0 q x0 m0 = some z → xMet G l mX9_termsOf (e + 0) [.ref (xad G q), .int x0] m0 (xrI z)) {r4 : Nat → Int32 → Int32 → XM → Option (Int32 × XM)} (hr4 : ∀ (q0 : Nat) (x2 : Int32) (x3 : Int32) (m0 : XM), isa G q0 9 → xJ (xE G d) (xQ xrI G X mX9_termsOf) G l X mX9_termsOf 4 [(0, .ref (xad G q0)), (2, .int x2), (3, .int x3)] [] m0 (r4 q0 x2 x3 m0)) : ∀ (q0 : Nat) (x3 : Int32) (s0 : Int32) (s1 : Int32) (m0 : XM), isa G q0 9 → xJ (xE G d) (xQ xrI G X mX9_termsOf) G l X mX9_termsOf 40 [(0, .ref (xad G q0)), (3, .int x3)] [.int s1, .int s0] m0 (fX9_termsOf_40 (xln G) R r4 q0 x3 s0 s1 m0) := by
  intro q0 x3 s0 s1 m0 hq0
  unfold fX9_termsOf_40
  refine xj_iadd F dX9_termsOf_40 (fun v1 => ?_)
  refine xj_istore_n (lv' := [(2, .int v1), (0, .ref (xad G q0)), (3, .int x3)]) F dX9_termsOf_41 (by decide) rfl ?_
  refine xj_aload_n F 1 dX9_termsOf_42 rfl ?_
  refine xj_getR F hq0 lgX9_20 dX9_termsOf_43 (fun u2 hu2 => ?_)
  refine xj_iload_n F 2 dX9_termsOf_46 rfl ?_
  refine xj_iconst F 4 dX9_termsOf_47 (by decide) ?_
  refine xj_callSI (As := [.ref (xad G u2), .int x3, .int 4]) (d' := 0) F lmX9_254 rfl rfl (Nat.le_of_ble_eq_true rfl) (xfit (Nat.le_trans (Nat.le_of_ble_eq_true rfl) hdep)) dX9_termsOf_48 (fun hT z hz => wX9_ofTerm (xnd F) (Nat.le_refl _) hT (a0 := u2) (a1 := x3) (a2 := 4) hu2 z hz) (fun v4 m3 => ?_)
  refine xj_istore_n (lv' := [(3, .int v4), (2, .int v1), (0, .ref (xad G q0))]) F dX9_termsOf_51 (by decide) rfl ?_
  refine xj_goto (tgt := 4) F dX9_termsOf_52 (by decide) ?_
  refine xj_sub (lv' := [(0, .ref (xad G q0)), (2, .int v1), (3, .int v4)]) [2, 1, 0] rfl ?_
  exact hr4 q0 v1 v4 m3 hq0
set_option maxRecDepth 20000 in
set_option maxHeartbeats 4000000 in
theorem jX9_termsOf_4 {G : XG} {l : Launch} {d : Nat} {X : XX} (F : xF (xE G d) G X mX9_termsOf) (hdep : 1 ≤ d) {e : Nat} {R : Nat → Nat → Int32 → XM → Option (Int32 × XM)} (hge : e + 0 + 1 ≤ d) (hR0 : ∀ {m0 : XM}, xT G m0 → ∀ {q : Nat}, isa G q 9 → ∀ (x0 : Int32) (z : Int32 × XM), R 0 q x0 m0 = some z → xMet G l mX9_termsOf (e + 0) [.ref (xad G q), .int x0] m0 (xrI z)) : ∀ (n : Nat) (q0 : Nat) (x2 : Int32) (x3 : Int32) (m0 : XM), isa G q0 9 → xJ (xE G d) (xQ xrI G X mX9_termsOf) G l X mX9_termsOf 4 [(0, .ref (xad G q0)), (2, .int x2), (3, .int x3)] [] m0 (fX9_termsOf_4 (xln G) R n q0 x2 x3 m0) := by
  intro n
  induction n with
  | zero => intro q0 x2 x3 m0 hq0; exact xj_none
  | succ n hr4 =>
    intro q0 x2 x3 m0 hq0
    unfold fX9_termsOf_4
    generalize hrg4 : (fun q0 x2 x3 m0 => fX9_termsOf_4 (xln G) R n q0 x2 x3 m0) = r4
    have hr4 : ∀ (q0 : Nat) (x2 : Int32) (x3 : Int32) (m0 : XM), isa G q0 9 → xJ (xE G d) (xQ xrI G X mX9_termsOf) G l X mX9_termsOf 4 [(0, .ref (xad G q0)), (2, .int x2), (3, .int x3)] [] m0 (r4 q0 x2 x3 m0) := by
      subst hrg4
      exact hr4
    clear hrg4
    refine xj_eq (xv_eq _ _) ?_
    refine xj_iload_n F 2 dX9_termsOf_4 rfl ?_
    refine xj_iconst F (-1) dX9_termsOf_5 (by decide) ?_
    refine xj_icmp_eq (tgt := 55) F dX9_termsOf_6 (by decide) ?_ ?_
    · refine xj_iload_n F 1 dX9_termsOf_55 rfl ?_
      exact xj_ret F rfl dX9_termsOf_56
    · refine xj_iload_n F 1 dX9_termsOf_9 rfl ?_
      refine xj_aload_n F 0 dX9_termsOf_10 rfl ?_
      refine xj_getR F hq0 lgX9_20 dX9_termsOf_11 (fun u1 hu1 => ?_)
      refine xj_iload_n F 2 dX9_termsOf_14 rfl ?_
      refine xj_iconst F 1 dX9_termsOf_15 (by decide) ?_
      refine xj_callSI (As := [.ref (xad G u1), .int x3, .int 1]) (d' := 0) F lmX9_254 rfl rfl (Nat.le_of_ble_eq_true rfl) (xfit (Nat.le_trans (Nat.le_of_ble_eq_true rfl) hdep)) dX9_termsOf_16 (fun hT z hz => wX9_ofTerm (xnd F) (Nat.le_refl _) hT (a0 := u1) (a1 := x3) (a2 := 1) hu1 z hz) (fun v3 m2 => ?_)
      refine xj_iconst F 4 dX9_termsOf_19 (by decide) ?_
      refine xj_icmp_ne (tgt := 39) F dX9_termsOf_20 (by decide) ?_ ?_
      · refine xj_iconst F 1 dX9_termsOf_39 (by decide) ?_
        refine xj_sub (lv' := [(0, .ref (xad G q0)), (3, .int x3)]) [0, 2] rfl ?_
        exact jX9_termsOf_40 F hdep hge hR0 hr4 q0 x3 x2 1 m2 hq0
      · refine xj_aload_n F 0 dX9_termsOf_23 rfl ?_
        refine xj_aload_n F 0 dX9_termsOf_24 rfl ?_
        refine xj_getR F hq0 lgX9_20 dX9_termsOf_25 (fun u4 hu4 => ?_)
        refine xj_iload_n F 2 dX9_termsOf_28 rfl ?_
        refine xj_iconst F 2 dX9_termsOf_29 (by decide) ?_
        refine xj_callSI (As := [.ref (xad G u4), .int x3, .int 2]) (d' := 0) F lmX9_254 rfl rfl (Nat.le_of_ble_eq_true rfl) (xfit (Nat.le_trans (Nat.le_of_ble_eq_true rfl) hdep)) dX9_termsOf_30 (fun hT z hz => wX9_ofTerm (xnd F) (Nat.le_refl _) hT (a0 := u4) (a1 := x3) (a2 := 2) hu4 z hz) (fun v6 m5 => ?_)
        refine xj_callVI (b := q0) (As := [.int v6]) (d' := e + 0) F hq0 lmX9_376 rfl rfl (Nat.le_of_ble_eq_true rfl) (xfit hge) dX9_termsOf_33 (fun hT z hz => hR0 hT hq0 v6 z hz) (fun v8 m7 => ?_)
        refine xj_goto (tgt := 40) F dX9_termsOf_36 (by decide) ?_
        refine xj_sub (lv' := [(0, .ref (xad G q0)), (3, .int x3)]) [0, 2] rfl ?_
        exact jX9_termsOf_40 F hdep hge hR0 hr4 q0 x3 x2 v8 m7 hq0
set_option maxRecDepth 20000 in
set_option maxHeartbeats 4000000 in
theorem wX9_termsOf {G : XG} {l : Launch} {d : Nat} (hn : xN G) (hdep : 1 ≤ d) {e : Nat} {R : Nat → Nat → Int32 → XM → Option (Int32 × XM)} (hge : e + 0 + 1 ≤ d) (hR0 : ∀ {m0 : XM}, xT G m0 → ∀ {q : Nat}, isa G q 9 → ∀ (x0 : Int32) (z : Int32 × XM), R 0 q x0 m0 = some z → xMet G l mX9_termsOf (e + 0) [.ref (xad G q), .int x0] m0 (xrI z)) {m0 : XM} (hT : xT G m0) {a0 : Nat} {a1 : Int32} (ha0 : isa G a0 9) : ∀ z, fX9_termsOf (xln G) R a0 a1 m0 = some z → xMet G l mX9_termsOf d [.ref (xad G a0), .int a1] m0 (xrI z) := by
  refine xMet_of (by decide +kernel) hn hT (Nat.le_of_ble_eq_true rfl) (fun X F => ?_)
  refine xj_sub (lv' := [(0, .ref (xad G a0)), (1, .int a1)]) [0, 1] rfl ?_
  unfold fX9_termsOf
  refine xj_iconst F 0 dX9_termsOf_0 (by decide) ?_
  refine xj_istore_n (lv' := [(2, .int 0), (0, .ref (xad G a0)), (1, .int a1)]) F dX9_termsOf_1 (by decide) rfl ?_
  refine xj_iload_n F 2 dX9_termsOf_2 rfl ?_
  refine xj_istore_n (lv' := [(3, .int a1), (2, .int 0), (0, .ref (xad G a0)), (1, .int a1)]) F dX9_termsOf_3 (by decide) rfl ?_
  refine xj_sub (lv' := [(0, .ref (xad G a0)), (2, .int 0), (3, .int a1)]) [2, 1, 0] rfl ?_
  exact jX9_termsOf_4 F hdep hge hR0 XF a0 0 a1 m0 ha0
set_option maxRecDepth 20000 in
set_option maxHeartbeats 4000000 in
theorem gwX9_termsOf {G : XG} {l : Launch} (hn : xN G) : ∀ (e : Nat), (∀ {m0 : XM}, xT G m0 → ∀ {q : Nat}, isa G q 9 → ∀ (x0 : Int32) (z : Int32 × XM), gX9_termsOf (xln G) e 0 q x0 m0 = some z → xMet G l mX9_termsOf (e + 0) [.ref (xad G q), .int x0] m0 (xrI z)) := by
  intro e
  induction e with
  | zero => exact (by intro m0 hT q hq x0 z hz; unfold gX9_termsOf at hz; cases hz)
  | succ e ih =>
    generalize hRg : (fun t q x0 m0 => gX9_termsOf (xln G) e t q x0 m0) = R
    have hR0 : ∀ {m0 : XM}, xT G m0 → ∀ {q : Nat}, isa G q 9 → ∀ (x0 : Int32) (z : Int32 × XM), R 0 q x0 m0 = some z → xMet G l mX9_termsOf (e + 0) [.ref (xad G q), .int x0] m0 (xrI z) := by
      subst hRg
      exact ih
    have p0 : ∀ {m0 : XM}, xT G m0 → ∀ {q : Nat}, isa G q 9 → ∀ (x0 : Int32) (z : Int32 × XM), gX9_termsOf (xln G) (e + 1) 0 q x0 m0 = some z → xMet G l mX9_termsOf (e + 1 + 0) [.ref (xad G q), .int x0] m0 (xrI z) := by
      intro m0 hT q hq x0 z hz
      unfold gX9_termsOf at hz
      rw [hRg] at hz
      have hz := hz
      simp only [xv, if_pos (show 0 = 0 from rfl)] at hz
      exact wX9_termsOf hn (by omega) (e := e) (R := R) (by omega) hR0 hT (a0 := q) (a1 := x0) hq z hz
    exact @p0
set_option maxRecDepth 20000 in
set_option maxHeartbeats 4000000 in
theorem jX9_member_214 {G : XG} {l : Launch} {d : Nat} {X : XX} (F : xF (xE G d) G X mX9_member) (hdep : 41 ≤ d) : ∀ (p0 : Nat) (s1 : Int32) (m0 : XM), isa G p0 9 → xJ (xE G d) (xQ xrI G X mX9_member) G l X mX9_member 214 [] [.int s1, .ref (xad G p0)] m0 (fX9_member_214 (xln G) p0 s1 m0) := by
  intro p0 s1 m0 hp0
  unfold fX9_member_214
  refine xj_callVI (b := p0) (As := [.int s1]) (d' := 40) F hp0 lmX9_376 rfl rfl (Nat.le_of_ble_eq_true rfl) (xfit (Nat.le_trans (Nat.le_of_ble_eq_true rfl) hdep)) dX9_member_214 (fun hT z hz => (gwX9_termsOf (xnd F) 40) hT hp0 s1 z hz) (fun v2 m1 => ?_)
  exact xj_ret F rfl dX9_member_217
set_option maxRecDepth 20000 in
set_option maxHeartbeats 4000000 in
theorem jX9_member_199 {G : XG} {l : Launch} {d : Nat} {X : XX} (F : xF (xE G d) G X mX9_member) (hdep : 41 ≤ d) : ∀ (q0 : Nat) (x6 : Int32) (p0 : Nat) (m0 : XM), isa G q0 9 → isa G p0 9 → xJ (xE G d) (xQ xrI G X mX9_member) G l X mX9_member 199 [(0, .ref (xad G q0)), (6, .int x6)] [.ref (xad G p0)] m0 (fX9_member_199 (xln G) q0 x6 p0 m0) := by
  intro q0 x6 p0 m0 hq0 hp0
  unfold fX9_member_199
  refine xj_aload_n F 0 dX9_member_199 rfl ?_
  refine xj_getR F hq0 lgX9_20 dX9_member_200 (fun u1 hu1 => ?_)
  refine xj_iload F 1 dX9_member_203 rfl ?_
  refine xj_iconst F 2 dX9_member_205 (by decide) ?_
  refine xj_callSI (As := [.ref (xad G u1), .int x6, .int 2]) (d' := 0) F lmX9_244 rfl rfl (Nat.le_of_ble_eq_true rfl) (xfit (Nat.le_trans (Nat.le_of_ble_eq_true rfl) hdep)) dX9_member_206 (fun hT z hz => wX9_ofAct (xnd F) (Nat.le_refl _) hT (a0 := u1) (a1 := x6) (a2 := 2) hu1 z hz) (fun v3 m2 => ?_)
  refine xj_goto (tgt := 214) F dX9_member_209 (by decide) ?_
  refine xj_sub (lv' := []) [] rfl ?_
  exact jX9_member_214 F hdep p0 v3 m2 hp0
set_option maxRecDepth 20000 in
set_option maxHeartbeats 4000000 in
theorem jX9_member_43 {G : XG} {l : Launch} {d : Nat} {X : XX} (F : xF (xE G d) G X mX9_member) (hdep : 41 ≤ d) : ∀ (q0 : Nat) (x1 : Int32) (x2 : Int32) (x3 : Int32) (p0 : Nat) (s1 : Int32) (m0 : XM), isa G q0 9 → isa G p0 9 → xJ (xE G d) (xQ xrI G X mX9_member) G l X mX9_member 43 [(0, .ref (xad G q0)), (1, .int x1), (2, .int x2), (3, .int x3)] [.int s1, .ref (xad G p0)] m0 (fX9_member_43 (xln G) q0 x1 x2 x3 p0 s1 m0) := by
  intro q0 x1 x2 x3 p0 s1 m0 hq0 hp0
  unfold fX9_member_43
  refine xj_iconst F 2 dX9_member_43 (by decide) ?_
  refine xj_iconst F 1 dX9_member_44 (by decide) ?_
  refine xj_callVI (b := p0) (As := [.int s1, .int 2, .int 1]) (d' := 0) F hp0 lmX9_257 rfl rfl (Nat.le_of_ble_eq_true rfl) (xfit (Nat.le_trans (Nat.le_of_ble_eq_true rfl) hdep)) dX9_member_45 (fun hT z hz => wX9_bad (xnd F) (Nat.le_refl _) hT (a0 := p0) (a1 := s1) (a2 := 2) (a3 := 1) hp0 z hz) (fun v2 m1 => ?_)
  refine xj_if_eq (tgt := 53) F dX9_member_48 (by decide) ?_ ?_
  · refine xj_aload_n F 0 dX9_member_53 rfl ?_
    refine xj_getR F hq0 lgX9_20 dX9_member_54 (fun u3 hu3 => ?_)
    refine xj_iload_n F 1 dX9_member_57 rfl ?_
    refine xj_iload_n F 2 dX9_member_58 rfl ?_
    refine xj_callSI (As := [.ref (xad G u3), .int x1, .int x2]) (d' := 0) F lmX9_101 rfl rfl (Nat.le_of_ble_eq_true rfl) (xfit (Nat.le_trans (Nat.le_of_ble_eq_true rfl) hdep)) dX9_member_59 (fun hT z hz => wX9_memberAt (xnd F) (Nat.le_refl _) hT (a0 := u3) (a1 := x1) (a2 := x2) hu3 z hz) (fun v5 m4 => ?_)
    refine xj_istore (lv' := [(4, .int v5), (0, .ref (xad G q0)), (1, .int x1), (2, .int x2), (3, .int x3)]) F dX9_member_62 (by decide) rfl ?_
    refine xj_aload_n F 1 dX9_member_64 rfl ?_
    refine xj_getR F hq0 lgX9_20 dX9_member_65 (fun u6 hu6 => ?_)
    refine xj_iload F 0 dX9_member_68 rfl ?_
    refine xj_iconst F 0 dX9_member_70 (by decide) ?_
    refine xj_callSI (As := [.ref (xad G u6), .int v5, .int 0]) (d' := 0) F lmX9_104 rfl rfl (Nat.le_of_ble_eq_true rfl) (xfit (Nat.le_trans (Nat.le_of_ble_eq_true rfl) hdep)) dX9_member_71 (fun hT z hz => wX9_ofMember (xnd F) (Nat.le_refl _) hT (a0 := u6) (a1 := v5) (a2 := 0) hu6 z hz) (fun v8 m7 => ?_)
    refine xj_istore (lv' := [(5, .int v8), (4, .int v5), (0, .ref (xad G q0)), (1, .int x1), (2, .int x2), (3, .int x3)]) F dX9_member_74 (by decide) rfl ?_
    refine xj_aload_n F 2 dX9_member_76 rfl ?_
    refine xj_getR F hq0 lgX9_20 dX9_member_77 (fun u9 hu9 => ?_)
    refine xj_iload F 1 dX9_member_80 rfl ?_
    refine xj_iconst F 2 dX9_member_82 (by decide) ?_
    refine xj_callSI (As := [.ref (xad G u9), .int v5, .int 2]) (d' := 0) F lmX9_104 rfl rfl (Nat.le_of_ble_eq_true rfl) (xfit (Nat.le_trans (Nat.le_of_ble_eq_true rfl) hdep)) dX9_member_83 (fun hT z hz => wX9_ofMember (xnd F) (Nat.le_refl _) hT (a0 := u9) (a1 := v5) (a2 := 2) hu9 z hz) (fun v11 m10 => ?_)
    refine xj_istore (lv' := [(6, .int v11), (5, .int v8), (4, .int v5), (0, .ref (xad G q0)), (1, .int x1), (2, .int x2), (3, .int x3)]) F dX9_member_86 (by decide) rfl ?_
    refine xj_iload_n F 6 dX9_member_88 rfl ?_
    refine xj_ite (c := x3 = 0) (fun h12 => ?_) (fun h12 => ?_)
    · refine xj_tabIn F 120 dX9_member_89 (by subst h12; decide) (by subst h12; decide) (by subst h12; rfl) (by decide) ?_
      refine xj_iload F 1 dX9_member_120 rfl ?_
      exact xj_ret F rfl dX9_member_122
    · skip
      refine xj_ite (c := x3 = 1) (fun h13 => ?_) (fun h13 => ?_)
      · refine xj_tabIn F 123 dX9_member_89 (by subst h13; decide) (by subst h13; decide) (by subst h13; rfl) (by decide) ?_
        refine xj_aload_n F 3 dX9_member_123 rfl ?_
        refine xj_getR F hq0 lgX9_26 dX9_member_124 (fun u14 hu14 => ?_)
        refine xj_iload F 2 dX9_member_127 rfl ?_
        refine xj_zald F hu14 dX9_member_129 (fun v15 => ?_)
        refine xj_if_eq (tgt := 137) F dX9_member_130 (by decide) ?_ ?_
        · refine xj_iconst F 1 dX9_member_137 (by decide) ?_
          exact xj_ret F rfl dX9_member_138
        · refine xj_iconst F 0 dX9_member_133 (by decide) ?_
          refine xj_goto (tgt := 138) F dX9_member_134 (by decide) ?_
          exact xj_ret F rfl dX9_member_138
      · skip
        refine xj_ite (c := x3 = 2) (fun h16 => ?_) (fun h16 => ?_)
        · refine xj_tabIn F 139 dX9_member_89 (by subst h16; decide) (by subst h16; decide) (by subst h16; rfl) (by decide) ?_
          refine xj_iload F 1 dX9_member_139 rfl ?_
          refine xj_iconst F 3 dX9_member_141 (by decide) ?_
          refine xj_icmp_ne (tgt := 166) F dX9_member_142 (by decide) ?_ ?_
          · refine xj_aload_n F 3 dX9_member_166 rfl ?_
            refine xj_getR F hq0 lgX9_20 dX9_member_167 (fun u17 hu17 => ?_)
            refine xj_iload F 2 dX9_member_170 rfl ?_
            refine xj_iconst F 1 dX9_member_172 (by decide) ?_
            refine xj_callSI (As := [.ref (xad G u17), .int v5, .int 1]) (d' := 0) F lmX9_104 rfl rfl (Nat.le_of_ble_eq_true rfl) (xfit (Nat.le_trans (Nat.le_of_ble_eq_true rfl) hdep)) dX9_member_173 (fun hT z hz => wX9_ofMember (xnd F) (Nat.le_refl _) hT (a0 := u17) (a1 := v5) (a2 := 1) hu17 z hz) (fun v19 m18 => ?_)
            exact xj_ret F rfl dX9_member_176
          · refine xj_aload_n F 3 dX9_member_145 rfl ?_
            refine xj_getR F hq0 lgX9_20 dX9_member_146 (fun u20 hu20 => ?_)
            refine xj_aload_n F 3 dX9_member_149 rfl ?_
            refine xj_getR F hq0 lgX9_20 dX9_member_150 (fun u21 hu21 => ?_)
            refine xj_iload F 0 dX9_member_153 rfl ?_
            refine xj_iconst F 1 dX9_member_155 (by decide) ?_
            refine xj_callSI (As := [.ref (xad G u21), .int v11, .int 1]) (d' := 0) F lmX9_244 rfl rfl (Nat.le_of_ble_eq_true rfl) (xfit (Nat.le_trans (Nat.le_of_ble_eq_true rfl) hdep)) dX9_member_156 (fun hT z hz => wX9_ofAct (xnd F) (Nat.le_refl _) hT (a0 := u21) (a1 := v11) (a2 := 1) hu21 z hz) (fun v23 m22 => ?_)
            refine xj_iconst F 1 dX9_member_159 (by decide) ?_
            refine xj_callSI (As := [.ref (xad G u20), .int v23, .int 1]) (d' := 0) F lmX9_104 rfl rfl (Nat.le_of_ble_eq_true rfl) (xfit (Nat.le_trans (Nat.le_of_ble_eq_true rfl) hdep)) dX9_member_160 (fun hT z hz => wX9_ofMember (xnd F) (Nat.le_refl _) hT (a0 := u20) (a1 := v23) (a2 := 1) hu20 z hz) (fun v25 m24 => ?_)
            refine xj_goto (tgt := 176) F dX9_member_163 (by decide) ?_
            exact xj_ret F rfl dX9_member_176
        · skip
          refine xj_ite (c := x3 = 3) (fun h26 => ?_) (fun h26 => ?_)
          · refine xj_tabIn F 177 dX9_member_89 (by subst h26; decide) (by subst h26; decide) (by subst h26; rfl) (by decide) ?_
            refine xj_iload F 1 dX9_member_177 rfl ?_
            refine xj_if_ne (tgt := 186) F dX9_member_179 (by decide) ?_ ?_
            · refine xj_aload_n F 3 dX9_member_186 rfl ?_
              refine xj_iload F 1 dX9_member_187 rfl ?_
              refine xj_iconst F 2 dX9_member_189 (by decide) ?_
              refine xj_icmp_eq (tgt := 199) F dX9_member_190 (by decide) ?_ ?_
              · refine xj_sub (lv' := [(0, .ref (xad G q0)), (6, .int v11)]) [3, 0] rfl ?_
                exact jX9_member_199 F hdep q0 v11 q0 m10 hq0 hq0
              · refine xj_iload F 1 dX9_member_193 rfl ?_
                refine xj_iconst F 3 dX9_member_195 (by decide) ?_
                refine xj_icmp_ne (tgt := 212) F dX9_member_196 (by decide) ?_ ?_
                · refine xj_iload F 0 dX9_member_212 rfl ?_
                  refine xj_sub (lv' := []) [] rfl ?_
                  exact jX9_member_214 F hdep q0 v11 m10 hq0
                · refine xj_sub (lv' := [(0, .ref (xad G q0)), (6, .int v11)]) [3, 0] rfl ?_
                  exact jX9_member_199 F hdep q0 v11 q0 m10 hq0 hq0
            · refine xj_iconst F 0 dX9_member_182 (by decide) ?_
              refine xj_goto (tgt := 217) F dX9_member_183 (by decide) ?_
              exact xj_ret F rfl dX9_member_217
          · skip
            have eh12 := xne 0 h12 rfl
            have eh13 := xne 1 h13 rfl
            have eh16 := xne 2 h16 rfl
            have eh26 := xne 3 h26 rfl
            refine xj_tabOut F 218 dX9_member_89 (by omega) (by decide) ?_
            refine xj_iload F 1 dX9_member_218 rfl ?_
            refine xj_if_ne (tgt := 228) F dX9_member_220 (by decide) ?_ ?_
            · refine xj_iload F 1 dX9_member_228 rfl ?_
              refine xj_iconst F 3 dX9_member_230 (by decide) ?_
              refine xj_icmp_ne (tgt := 247) F dX9_member_231 (by decide) ?_ ?_
              · refine xj_iload F 1 dX9_member_247 rfl ?_
                refine xj_iconst F 4 dX9_member_249 (by decide) ?_
                refine xj_icmp_ne (tgt := 266) F dX9_member_250 (by decide) ?_ ?_
                · refine xj_iconst F (-1) dX9_member_266 (by decide) ?_
                  exact xj_ret F rfl dX9_member_267
                · refine xj_aload_n F 3 dX9_member_253 rfl ?_
                  refine xj_getR F hq0 lgX9_20 dX9_member_254 (fun u27 hu27 => ?_)
                  refine xj_iload F 2 dX9_member_257 rfl ?_
                  refine xj_iconst F 3 dX9_member_259 (by decide) ?_
                  refine xj_callSI (As := [.ref (xad G u27), .int v5, .int 3]) (d' := 0) F lmX9_104 rfl rfl (Nat.le_of_ble_eq_true rfl) (xfit (Nat.le_trans (Nat.le_of_ble_eq_true rfl) hdep)) dX9_member_260 (fun hT z hz => wX9_ofMember (xnd F) (Nat.le_refl _) hT (a0 := u27) (a1 := v5) (a2 := 3) hu27 z hz) (fun v29 m28 => ?_)
                  refine xj_goto (tgt := 267) F dX9_member_263 (by decide) ?_
                  exact xj_ret F rfl dX9_member_267
              · refine xj_aload_n F 3 dX9_member_234 rfl ?_
                refine xj_getR F hq0 lgX9_20 dX9_member_235 (fun u30 hu30 => ?_)
                refine xj_iload F 0 dX9_member_238 rfl ?_
                refine xj_iconst F 0 dX9_member_240 (by decide) ?_
                refine xj_callSI (As := [.ref (xad G u30), .int v11, .int 0]) (d' := 0) F lmX9_244 rfl rfl (Nat.le_of_ble_eq_true rfl) (xfit (Nat.le_trans (Nat.le_of_ble_eq_true rfl) hdep)) dX9_member_241 (fun hT z hz => wX9_ofAct (xnd F) (Nat.le_refl _) hT (a0 := u30) (a1 := v11) (a2 := 0) hu30 z hz) (fun v32 m31 => ?_)
                refine xj_goto (tgt := 267) F dX9_member_244 (by decide) ?_
                exact xj_ret F rfl dX9_member_267
            · refine xj_iload F 0 dX9_member_223 rfl ?_
              refine xj_goto (tgt := 267) F dX9_member_225 (by decide) ?_
              exact xj_ret F rfl dX9_member_267
  · refine xj_iconst F 0 dX9_member_51 (by decide) ?_
    exact xj_ret F rfl dX9_member_52
set_option maxRecDepth 20000 in
set_option maxHeartbeats 4000000 in
theorem jX9_member_20 {G : XG} {l : Launch} {d : Nat} {X : XX} (F : xF (xE G d) G X mX9_member) (hdep : 41 ≤ d) : ∀ (q0 : Nat) (x1 : Int32) (x2 : Int32) (x3 : Int32) (p0 : Nat) (s1 : Int32) (m0 : XM), isa G q0 9 → isa G p0 9 → xJ (xE G d) (xQ xrI G X mX9_member) G l X mX9_member 20 [(0, .ref (xad G q0)), (1, .int x1), (2, .int x2), (3, .int x3)] [.int s1, .ref (xad G p0)] m0 (fX9_member_20 (xln G) q0 x1 x2 x3 p0 s1 m0) := by
  intro q0 x1 x2 x3 p0 s1 m0 hq0 hp0
  unfold fX9_member_20
  refine xj_iconst F 1 dX9_member_20 (by decide) ?_
  refine xj_iconst F 0 dX9_member_21 (by decide) ?_
  refine xj_callVI (b := p0) (As := [.int s1, .int 1, .int 0]) (d' := 0) F hp0 lmX9_257 rfl rfl (Nat.le_of_ble_eq_true rfl) (xfit (Nat.le_trans (Nat.le_of_ble_eq_true rfl) hdep)) dX9_member_22 (fun hT z hz => wX9_bad (xnd F) (Nat.le_refl _) hT (a0 := p0) (a1 := s1) (a2 := 1) (a3 := 0) hp0 z hz) (fun v2 m1 => ?_)
  refine xj_if_ne (tgt := 51) F dX9_member_25 (by decide) ?_ ?_
  · refine xj_iconst F 0 dX9_member_51 (by decide) ?_
    exact xj_ret F rfl dX9_member_52
  · refine xj_aload_n F 0 dX9_member_28 rfl ?_
    refine xj_iload_n F 3 dX9_member_29 rfl ?_
    refine xj_iconst F 0 dX9_member_30 (by decide) ?_
    refine xj_iconst F 4 dX9_member_31 (by decide) ?_
    refine xj_callSI (As := [.int x3, .int 0, .int 4]) (d' := 0) F lmX9_155 rfl rfl (Nat.le_of_ble_eq_true rfl) (xfit (Nat.le_trans (Nat.le_of_ble_eq_true rfl) hdep)) dX9_member_32 (fun hT z hz => wX9_in (xnd F) (Nat.le_refl _) hT (a0 := x3) (a1 := 0) (a2 := 4)  z hz) (fun v4 m3 => ?_)
    refine xj_if_ne (tgt := 42) F dX9_member_35 (by decide) ?_ ?_
    · refine xj_iconst F 0 dX9_member_42 (by decide) ?_
      exact jX9_member_43 F hdep q0 x1 x2 x3 q0 0 m3 hq0 hq0
    · refine xj_iconst F 1 dX9_member_38 (by decide) ?_
      refine xj_goto (tgt := 43) F dX9_member_39 (by decide) ?_
      exact jX9_member_43 F hdep q0 x1 x2 x3 q0 1 m3 hq0 hq0
set_option maxRecDepth 20000 in
set_option maxHeartbeats 4000000 in
theorem wX9_member {G : XG} {l : Launch} {d : Nat} (hn : xN G) (hdep : 41 ≤ d) {m0 : XM} (hT : xT G m0) {a0 : Nat} {a1 : Int32} {a2 : Int32} {a3 : Int32} (ha0 : isa G a0 9) : ∀ z, fX9_member (xln G) a0 a1 a2 a3 m0 = some z → xMet G l mX9_member d [.ref (xad G a0), .int a1, .int a2, .int a3] m0 (xrI z) := by
  refine xMet_of (by decide +kernel) hn hT (Nat.le_of_ble_eq_true rfl) (fun X F => ?_)
  refine xj_sub (lv' := [(0, .ref (xad G a0)), (1, .int a1), (2, .int a2), (3, .int a3)]) [0, 1, 2, 3] rfl ?_
  unfold fX9_member
  refine xj_aload_n F 0 dX9_member_0 rfl ?_
  refine xj_iconst F 0 dX9_member_1 (by decide) ?_
  refine xj_put F ha0 lpX9_91 dX9_member_2 (fun m1 => ?_)
  refine xj_aload_n F 0 dX9_member_5 rfl ?_
  refine xj_aload_n F 0 dX9_member_6 rfl ?_
  refine xj_iload_n F 1 dX9_member_7 rfl ?_
  refine xj_iload_n F 2 dX9_member_8 rfl ?_
  refine xj_callVI (b := a0) (As := [.int a1, .int a2]) (d' := 2) F ha0 lmX9_286 rfl rfl (Nat.le_of_ble_eq_true rfl) (xfit (Nat.le_trans (Nat.le_of_ble_eq_true rfl) hdep)) dX9_member_9 (fun hT z hz => wX9_isMember (xnd F) (Nat.le_refl _) hT (a0 := a0) (a1 := a1) (a2 := a2) ha0 z hz) (fun v3 m2 => ?_)
  refine xj_if_ne (tgt := 19) F dX9_member_12 (by decide) ?_ ?_
  · refine xj_iconst F 0 dX9_member_19 (by decide) ?_
    exact jX9_member_20 F hdep a0 a1 a2 a3 a0 0 m2 ha0 ha0
  · refine xj_iconst F 1 dX9_member_15 (by decide) ?_
    refine xj_goto (tgt := 20) F dX9_member_16 (by decide) ?_
    exact jX9_member_20 F hdep a0 a1 a2 a3 a0 1 m2 ha0 ha0
set_option maxRecDepth 20000 in
set_option maxHeartbeats 4000000 in
theorem jX9_statesOf_30 {G : XG} {l : Launch} {d : Nat} {X : XX} (F : xF (xE G d) G X mX9_statesOf) (hdep : 0 ≤ d) {r4 : Nat → Int32 → Int32 → Int32 → XM → Option (Int32 × XM)} (hr4 : ∀ (q0 : Nat) (x1 : Int32) (x2 : Int32) (x3 : Int32) (m0 : XM), isa G q0 9 → xJ (xE G d) (xQ xrI G X mX9_statesOf) G l X mX9_statesOf 4 [(0, .ref (xad G q0)), (1, .int x1), (2, .int x2), (3, .int x3)] [] m0 (r4 q0 x1 x2 x3 m0)) : ∀ (q0 : Nat) (x1 : Int32) (x3 : Int32) (s0 : Int32) (s1 : Int32) (m0 : XM), isa G q0 9 → xJ (xE G d) (xQ xrI G X mX9_statesOf) G l X mX9_statesOf 30 [(0, .ref (xad G q0)), (1, .int x1), (3, .int x3)] [.int s1, .int s0] m0 (fX9_statesOf_30 (xln G) r4 q0 x1 x3 s0 s1 m0) := by
  intro q0 x1 x3 s0 s1 m0 hq0
  unfold fX9_statesOf_30
  refine xj_iadd F dX9_statesOf_30 (fun v1 => ?_)
  refine xj_istore_n (lv' := [(2, .int v1), (0, .ref (xad G q0)), (1, .int x1), (3, .int x3)]) F dX9_statesOf_31 (by decide) rfl ?_
  refine xj_iinc F 3 1 (fun v2 => [(3, .int v2), (2, .int v1), (0, .ref (xad G q0)), (1, .int x1)]) dX9_statesOf_32 rfl (by decide) (by decide) (fun _ => rfl) (fun v2 => ?_)
  refine xj_goto (tgt := 4) F dX9_statesOf_35 (by decide) ?_
  refine xj_sub (lv' := [(0, .ref (xad G q0)), (1, .int x1), (2, .int v1), (3, .int v2)]) [2, 3, 1, 0] rfl ?_
  exact hr4 q0 x1 v1 v2 m0 hq0
set_option maxRecDepth 20000 in
set_option maxHeartbeats 4000000 in
theorem jX9_statesOf_4 {G : XG} {l : Launch} {d : Nat} {X : XX} (F : xF (xE G d) G X mX9_statesOf) (hdep : 0 ≤ d) : ∀ (n : Nat) (q0 : Nat) (x1 : Int32) (x2 : Int32) (x3 : Int32) (m0 : XM), isa G q0 9 → xJ (xE G d) (xQ xrI G X mX9_statesOf) G l X mX9_statesOf 4 [(0, .ref (xad G q0)), (1, .int x1), (2, .int x2), (3, .int x3)] [] m0 (fX9_statesOf_4 (xln G) n q0 x1 x2 x3 m0) := by
  intro n
  induction n with
  | zero => intro q0 x1 x2 x3 m0 hq0; exact xj_none
  | succ n hr4 =>
    intro q0 x1 x2 x3 m0 hq0
    unfold fX9_statesOf_4
    generalize hrg4 : (fun q0 x1 x2 x3 m0 => fX9_statesOf_4 (xln G) n q0 x1 x2 x3 m0) = r4
    have hr4 : ∀ (q0 : Nat) (x1 : Int32) (x2 : Int32) (x3 : Int32) (m0 : XM), isa G q0 9 → xJ (xE G d) (xQ xrI G X mX9_statesOf) G l X mX9_statesOf 4 [(0, .ref (xad G q0)), (1, .int x1), (2, .int x2), (3, .int x3)] [] m0 (r4 q0 x1 x2 x3 m0) := by
      subst hrg4
      exact hr4
    clear hrg4
    refine xj_eq (xv_eq _ _) ?_
    refine xj_iload_n F 3 dX9_statesOf_4 rfl ?_
    refine xj_aload_n F 0 dX9_statesOf_5 rfl ?_
    refine xj_getR F hq0 lgX9_20 dX9_statesOf_6 (fun u1 hu1 => ?_)
    refine xj_iconst F 0 dX9_statesOf_9 (by decide) ?_
    refine xj_iald F hu1 dX9_statesOf_10 (fun v2 => ?_)
    refine xj_icmp_ge (tgt := 38) F dX9_statesOf_11 (by decide) ?_ ?_
    · refine xj_iload_n F 2 dX9_statesOf_38 rfl ?_
      exact xj_ret F rfl dX9_statesOf_39
    · refine xj_iload_n F 2 dX9_statesOf_14 rfl ?_
      refine xj_aload_n F 0 dX9_statesOf_15 rfl ?_
      refine xj_getR F hq0 lgX9_39 dX9_statesOf_16 (fun u3 hu3 => ?_)
      refine xj_iload_n F 3 dX9_statesOf_19 rfl ?_
      refine xj_iald F hu3 dX9_statesOf_20 (fun v4 => ?_)
      refine xj_iload_n F 1 dX9_statesOf_21 rfl ?_
      refine xj_icmp_ne (tgt := 29) F dX9_statesOf_22 (by decide) ?_ ?_
      · refine xj_iconst F 0 dX9_statesOf_29 (by decide) ?_
        refine xj_sub (lv' := [(0, .ref (xad G q0)), (1, .int x1), (3, .int x3)]) [0, 1, 3] rfl ?_
        exact jX9_statesOf_30 F hdep hr4 q0 x1 x3 x2 0 m0 hq0
      · refine xj_iconst F 1 dX9_statesOf_25 (by decide) ?_
        refine xj_goto (tgt := 30) F dX9_statesOf_26 (by decide) ?_
        refine xj_sub (lv' := [(0, .ref (xad G q0)), (1, .int x1), (3, .int x3)]) [0, 1, 3] rfl ?_
        exact jX9_statesOf_30 F hdep hr4 q0 x1 x3 x2 1 m0 hq0
set_option maxRecDepth 20000 in
set_option maxHeartbeats 4000000 in
theorem wX9_statesOf {G : XG} {l : Launch} {d : Nat} (hn : xN G) (hdep : 0 ≤ d) {m0 : XM} (hT : xT G m0) {a0 : Nat} {a1 : Int32} (ha0 : isa G a0 9) : ∀ z, fX9_statesOf (xln G) a0 a1 m0 = some z → xMet G l mX9_statesOf d [.ref (xad G a0), .int a1] m0 (xrI z) := by
  refine xMet_of (by decide +kernel) hn hT (Nat.le_of_ble_eq_true rfl) (fun X F => ?_)
  refine xj_sub (lv' := [(0, .ref (xad G a0)), (1, .int a1)]) [0, 1] rfl ?_
  unfold fX9_statesOf
  refine xj_iconst F 0 dX9_statesOf_0 (by decide) ?_
  refine xj_istore_n (lv' := [(2, .int 0), (0, .ref (xad G a0)), (1, .int a1)]) F dX9_statesOf_1 (by decide) rfl ?_
  refine xj_iconst F 0 dX9_statesOf_2 (by decide) ?_
  refine xj_istore_n (lv' := [(3, .int 0), (2, .int 0), (0, .ref (xad G a0)), (1, .int a1)]) F dX9_statesOf_3 (by decide) rfl ?_
  refine xj_sub (lv' := [(0, .ref (xad G a0)), (1, .int a1), (2, .int 0), (3, .int 0)]) [2, 3, 1, 0] rfl ?_
  exact jX9_statesOf_4 F hdep XF a0 a1 0 0 m0 ha0
set_option maxRecDepth 20000 in
set_option maxHeartbeats 4000000 in
theorem wX9_tells {G : XG} {l : Launch} {d : Nat} (hn : xN G) (hdep : 1 ≤ d) {m0 : XM} (hT : xT G m0) {a0 : Nat} {a1 : Int32} (ha0 : isa G a0 9) : ∀ z, fX9_tells (xln G) a0 a1 m0 = some z → xMet G l mX9_tells d [.ref (xad G a0), .int a1] m0 (xrI z) := by
  refine xMet_of (by decide +kernel) hn hT (Nat.le_of_ble_eq_true rfl) (fun X F => ?_)
  refine xj_sub (lv' := [(0, .ref (xad G a0)), (1, .int a1)]) [0, 1] rfl ?_
  unfold fX9_tells
  refine xj_iload_n F 1 dX9_tells_0 rfl ?_
  refine xj_ite (c := a1 = 0) (fun h1 => ?_) (fun h1 => ?_)
  · refine xj_tabIn F 44 dX9_tells_1 (by subst h1; decide) (by subst h1; decide) (by subst h1; rfl) (by decide) ?_
    refine xj_aload_n F 0 dX9_tells_44 rfl ?_
    refine xj_get F ha0 lgX9_358 dX9_tells_45 (fun v2 => ?_)
    exact xj_ret F rfl dX9_tells_48
  · skip
    refine xj_ite (c := a1 = 1) (fun h3 => ?_) (fun h3 => ?_)
    · refine xj_tabIn F 49 dX9_tells_1 (by subst h3; decide) (by subst h3; decide) (by subst h3; rfl) (by decide) ?_
      refine xj_aload_n F 0 dX9_tells_49 rfl ?_
      refine xj_get F ha0 lgX9_343 dX9_tells_50 (fun v4 => ?_)
      exact xj_ret F rfl dX9_tells_53
    · skip
      refine xj_ite (c := a1 = 2) (fun h5 => ?_) (fun h5 => ?_)
      · refine xj_tabIn F 54 dX9_tells_1 (by subst h5; decide) (by subst h5; decide) (by subst h5; rfl) (by decide) ?_
        refine xj_aload_n F 0 dX9_tells_54 rfl ?_
        refine xj_get F ha0 lgX9_364 dX9_tells_55 (fun v6 => ?_)
        exact xj_ret F rfl dX9_tells_58
      · skip
        refine xj_ite (c := a1 = 3) (fun h7 => ?_) (fun h7 => ?_)
        · refine xj_tabIn F 59 dX9_tells_1 (by subst h7; decide) (by subst h7; decide) (by subst h7; rfl) (by decide) ?_
          refine xj_aload_n F 0 dX9_tells_59 rfl ?_
          refine xj_get F ha0 lgX9_325 dX9_tells_60 (fun v8 => ?_)
          exact xj_ret F rfl dX9_tells_63
        · skip
          refine xj_ite (c := a1 = 4) (fun h9 => ?_) (fun h9 => ?_)
          · refine xj_tabIn F 64 dX9_tells_1 (by subst h9; decide) (by subst h9; decide) (by subst h9; rfl) (by decide) ?_
            refine xj_aload_n F 0 dX9_tells_64 rfl ?_
            refine xj_iconst F 2 dX9_tells_65 (by decide) ?_
            refine xj_callVI (b := a0) (As := [.int 2]) (d' := 0) F ha0 lmX9_379 rfl rfl (Nat.le_of_ble_eq_true rfl) (xfit (Nat.le_trans (Nat.le_of_ble_eq_true rfl) hdep)) dX9_tells_66 (fun hT z hz => wX9_statesOf (xnd F) (Nat.le_refl _) hT (a0 := a0) (a1 := 2) ha0 z hz) (fun v11 m10 => ?_)
            exact xj_ret F rfl dX9_tells_69
          · skip
            refine xj_ite (c := a1 = 5) (fun h12 => ?_) (fun h12 => ?_)
            · refine xj_tabIn F 70 dX9_tells_1 (by subst h12; decide) (by subst h12; decide) (by subst h12; rfl) (by decide) ?_
              refine xj_aload_n F 0 dX9_tells_70 rfl ?_
              refine xj_iconst F 3 dX9_tells_71 (by decide) ?_
              refine xj_callVI (b := a0) (As := [.int 3]) (d' := 0) F ha0 lmX9_379 rfl rfl (Nat.le_of_ble_eq_true rfl) (xfit (Nat.le_trans (Nat.le_of_ble_eq_true rfl) hdep)) dX9_tells_72 (fun hT z hz => wX9_statesOf (xnd F) (Nat.le_refl _) hT (a0 := a0) (a1 := 3) ha0 z hz) (fun v14 m13 => ?_)
              exact xj_ret F rfl dX9_tells_75
            · skip
              refine xj_ite (c := a1 = 6) (fun h15 => ?_) (fun h15 => ?_)
              · refine xj_tabIn F 76 dX9_tells_1 (by subst h15; decide) (by subst h15; decide) (by subst h15; rfl) (by decide) ?_
                refine xj_aload_n F 0 dX9_tells_76 rfl ?_
                refine xj_get F ha0 lgX9_297 dX9_tells_77 (fun v16 => ?_)
                exact xj_ret F rfl dX9_tells_80
              · skip
                have eh1 := xne 0 h1 rfl
                have eh3 := xne 1 h3 rfl
                have eh5 := xne 2 h5 rfl
                have eh7 := xne 3 h7 rfl
                have eh9 := xne 4 h9 rfl
                have eh12 := xne 5 h12 rfl
                have eh15 := xne 6 h15 rfl
                refine xj_tabOut F 81 dX9_tells_1 (by omega) (by decide) ?_
                refine xj_aload_n F 0 dX9_tells_81 rfl ?_
                refine xj_get F ha0 lgX9_300 dX9_tells_82 (fun v17 => ?_)
                refine xj_iconst F 2 dX9_tells_85 (by decide) ?_
                refine xj_icmp_ne (tgt := 93) F dX9_tells_86 (by decide) ?_ ?_
                · refine xj_iconst F 0 dX9_tells_93 (by decide) ?_
                  exact xj_ret F rfl dX9_tells_94
                · refine xj_iconst F 1 dX9_tells_89 (by decide) ?_
                  refine xj_goto (tgt := 94) F dX9_tells_90 (by decide) ?_
                  exact xj_ret F rfl dX9_tells_94
set_option maxRecDepth 20000 in
set_option maxHeartbeats 4000000 in
theorem jX9_lazy_21 {G : XG} {l : Launch} {d : Nat} {X : XX} (F : xF (xE G d) G X mX9_lazy) (hdep : 604 ≤ d) : ∀ (q0 : Nat) (x1 : Int32) (p0 : Nat) (s1 : Int32) (m0 : XM), isa G q0 9 → isa G p0 9 → xJ (xE G d) (xQ xrI G X mX9_lazy) G l X mX9_lazy 21 [(0, .ref (xad G q0)), (1, .int x1)] [.int s1, .ref (xad G p0)] m0 (fX9_lazy_21 (xln G) q0 x1 p0 s1 m0) := by
  intro q0 x1 p0 s1 m0 hq0 hp0
  unfold fX9_lazy_21
  refine xj_iconst F 1 dX9_lazy_21 (by decide) ?_
  refine xj_iconst F 1 dX9_lazy_22 (by decide) ?_
  refine xj_callVI (b := p0) (As := [.int s1, .int 1, .int 1]) (d' := 0) F hp0 lmX9_257 rfl rfl (Nat.le_of_ble_eq_true rfl) (xfit (Nat.le_trans (Nat.le_of_ble_eq_true rfl) hdep)) dX9_lazy_23 (fun hT z hz => wX9_bad (xnd F) (Nat.le_refl _) hT (a0 := p0) (a1 := s1) (a2 := 1) (a3 := 1) hp0 z hz) (fun v2 m1 => ?_)
  refine xj_if_eq (tgt := 31) F dX9_lazy_26 (by decide) ?_ ?_
  · refine xj_aload_n F 0 dX9_lazy_31 rfl ?_
    refine xj_callVV (b := q0) (As := []) (d' := 603) F hq0 lmX9_382 rfl rfl (Nat.le_of_ble_eq_true rfl) (xfit (Nat.le_trans (Nat.le_of_ble_eq_true rfl) hdep)) dX9_lazy_32 (fun hT z hz => wX9_lays (xnd F) (Nat.le_refl _) hT (a0 := q0) hq0 z hz) (fun m3 => ?_)
    refine xj_aload_n F 0 dX9_lazy_35 rfl ?_
    refine xj_iload_n F 1 dX9_lazy_36 rfl ?_
    refine xj_callVI (b := q0) (As := [.int x1]) (d' := 1) F hq0 lmX9_385 rfl rfl (Nat.le_of_ble_eq_true rfl) (xfit (Nat.le_trans (Nat.le_of_ble_eq_true rfl) hdep)) dX9_lazy_37 (fun hT z hz => wX9_tells (xnd F) (Nat.le_refl _) hT (a0 := q0) (a1 := x1) hq0 z hz) (fun v5 m4 => ?_)
    exact xj_ret F rfl dX9_lazy_40
  · refine xj_iconst F 0 dX9_lazy_29 (by decide) ?_
    exact xj_ret F rfl dX9_lazy_30
set_option maxRecDepth 20000 in
set_option maxHeartbeats 4000000 in
theorem wX9_lazy {G : XG} {l : Launch} {d : Nat} (hn : xN G) (hdep : 604 ≤ d) {m0 : XM} (hT : xT G m0) {a0 : Nat} {a1 : Int32} (ha0 : isa G a0 9) : ∀ z, fX9_lazy (xln G) a0 a1 m0 = some z → xMet G l mX9_lazy d [.ref (xad G a0), .int a1] m0 (xrI z) := by
  refine xMet_of (by decide +kernel) hn hT (Nat.le_of_ble_eq_true rfl) (fun X F => ?_)
  refine xj_sub (lv' := [(0, .ref (xad G a0)), (1, .int a1)]) [0, 1] rfl ?_
  unfold fX9_lazy
  refine xj_aload_n F 0 dX9_lazy_0 rfl ?_
  refine xj_iconst F 0 dX9_lazy_1 (by decide) ?_
  refine xj_put F ha0 lpX9_91 dX9_lazy_2 (fun m1 => ?_)
  refine xj_aload_n F 0 dX9_lazy_5 rfl ?_
  refine xj_iload_n F 1 dX9_lazy_6 rfl ?_
  refine xj_iconst F 0 dX9_lazy_7 (by decide) ?_
  refine xj_bipush F 7 dX9_lazy_8 (by decide) ?_
  refine xj_callSI (As := [.int a1, .int 0, .int 7]) (d' := 0) F lmX9_155 rfl rfl (Nat.le_of_ble_eq_true rfl) (xfit (Nat.le_trans (Nat.le_of_ble_eq_true rfl) hdep)) dX9_lazy_10 (fun hT z hz => wX9_in (xnd F) (Nat.le_refl _) hT (a0 := a1) (a1 := 0) (a2 := 7)  z hz) (fun v3 m2 => ?_)
  refine xj_if_ne (tgt := 20) F dX9_lazy_13 (by decide) ?_ ?_
  · refine xj_iconst F 0 dX9_lazy_20 (by decide) ?_
    exact jX9_lazy_21 F hdep a0 a1 a0 0 m2 ha0 ha0
  · refine xj_iconst F 1 dX9_lazy_16 (by decide) ?_
    refine xj_goto (tgt := 21) F dX9_lazy_17 (by decide) ?_
    exact jX9_lazy_21 F hdep a0 a1 a0 1 m2 ha0 ha0
set_option maxRecDepth 20000 in
set_option maxHeartbeats 4000000 in
theorem jX9_eager_29 {G : XG} {l : Launch} {d : Nat} {X : XX} (F : xF (xE G d) G X mX9_eager) (hdep : 604 ≤ d) : ∀ (q0 : Nat) (x1 : Int32) (x2 : Int32) (p0 : Nat) (s1 : Int32) (m0 : XM), isa G q0 9 → isa G p0 9 → xJ (xE G d) (xQ xrI G X mX9_eager) G l X mX9_eager 29 [(0, .ref (xad G q0)), (1, .int x1), (2, .int x2)] [.int s1, .ref (xad G p0)] m0 (fX9_eager_29 (xln G) q0 x1 x2 p0 s1 m0) := by
  intro q0 x1 x2 p0 s1 m0 hq0 hp0
  unfold fX9_eager_29
  refine xj_iconst F 1 dX9_eager_29 (by decide) ?_
  refine xj_iconst F 1 dX9_eager_30 (by decide) ?_
  refine xj_callVI (b := p0) (As := [.int s1, .int 1, .int 1]) (d' := 0) F hp0 lmX9_257 rfl rfl (Nat.le_of_ble_eq_true rfl) (xfit (Nat.le_trans (Nat.le_of_ble_eq_true rfl) hdep)) dX9_eager_31 (fun hT z hz => wX9_bad (xnd F) (Nat.le_refl _) hT (a0 := p0) (a1 := s1) (a2 := 1) (a3 := 1) hp0 z hz) (fun v2 m1 => ?_)
  refine xj_if_eq (tgt := 39) F dX9_eager_34 (by decide) ?_ ?_
  · refine xj_aload_n F 0 dX9_eager_39 rfl ?_
    refine xj_iload_n F 1 dX9_eager_40 rfl ?_
    refine xj_callVV (b := q0) (As := [.int x1]) (d' := 603) F hq0 lmX9_391 rfl rfl (Nat.le_of_ble_eq_true rfl) (xfit (Nat.le_trans (Nat.le_of_ble_eq_true rfl) hdep)) dX9_eager_41 (fun hT z hz => wX9_goesEager (xnd F) (Nat.le_refl _) hT (a0 := q0) (a1 := x1) hq0 z hz) (fun m3 => ?_)
    refine xj_aload_n F 0 dX9_eager_44 rfl ?_
    refine xj_iload_n F 2 dX9_eager_45 rfl ?_
    refine xj_callVI (b := q0) (As := [.int x2]) (d' := 1) F hq0 lmX9_385 rfl rfl (Nat.le_of_ble_eq_true rfl) (xfit (Nat.le_trans (Nat.le_of_ble_eq_true rfl) hdep)) dX9_eager_46 (fun hT z hz => wX9_tells (xnd F) (Nat.le_refl _) hT (a0 := q0) (a1 := x2) hq0 z hz) (fun v5 m4 => ?_)
    exact xj_ret F rfl dX9_eager_49
  · refine xj_iconst F 0 dX9_eager_37 (by decide) ?_
    exact xj_ret F rfl dX9_eager_38
set_option maxRecDepth 20000 in
set_option maxHeartbeats 4000000 in
theorem jX9_eager_24 {G : XG} {l : Launch} {d : Nat} {X : XX} (F : xF (xE G d) G X mX9_eager) (hdep : 604 ≤ d) : ∀ (q0 : Nat) (x1 : Int32) (x2 : Int32) (p0 : Nat) (m0 : XM), isa G q0 9 → isa G p0 9 → xJ (xE G d) (xQ xrI G X mX9_eager) G l X mX9_eager 24 [(0, .ref (xad G q0)), (1, .int x1), (2, .int x2)] [.ref (xad G p0)] m0 (fX9_eager_24 (xln G) q0 x1 x2 p0 m0) := by
  intro q0 x1 x2 p0 m0 hq0 hp0
  unfold fX9_eager_24
  refine xj_iconst F 1 dX9_eager_24 (by decide) ?_
  refine xj_goto (tgt := 29) F dX9_eager_25 (by decide) ?_
  exact jX9_eager_29 F hdep q0 x1 x2 p0 1 m0 hq0 hp0
set_option maxRecDepth 20000 in
set_option maxHeartbeats 4000000 in
theorem wX9_eager {G : XG} {l : Launch} {d : Nat} (hn : xN G) (hdep : 604 ≤ d) {m0 : XM} (hT : xT G m0) {a0 : Nat} {a1 : Int32} {a2 : Int32} (ha0 : isa G a0 9) : ∀ z, fX9_eager (xln G) a0 a1 a2 m0 = some z → xMet G l mX9_eager d [.ref (xad G a0), .int a1, .int a2] m0 (xrI z) := by
  refine xMet_of (by decide +kernel) hn hT (Nat.le_of_ble_eq_true rfl) (fun X F => ?_)
  refine xj_sub (lv' := [(0, .ref (xad G a0)), (1, .int a1), (2, .int a2)]) [0, 1, 2] rfl ?_
  unfold fX9_eager
  refine xj_aload_n F 0 dX9_eager_0 rfl ?_
  refine xj_iconst F 0 dX9_eager_1 (by decide) ?_
  refine xj_put F ha0 lpX9_91 dX9_eager_2 (fun m1 => ?_)
  refine xj_aload_n F 0 dX9_eager_5 rfl ?_
  refine xj_aload_n F 0 dX9_eager_6 rfl ?_
  refine xj_iload_n F 1 dX9_eager_7 rfl ?_
  refine xj_callVI (b := a0) (As := [.int a1]) (d' := 0) F ha0 lmX9_388 rfl rfl (Nat.le_of_ble_eq_true rfl) (xfit (Nat.le_trans (Nat.le_of_ble_eq_true rfl) hdep)) dX9_eager_8 (fun hT z hz => wX9_isOrder (xnd F) (Nat.le_refl _) hT (a0 := a0) (a1 := a1) ha0 z hz) (fun v3 m2 => ?_)
  refine xj_if_eq (tgt := 24) F dX9_eager_11 (by decide) ?_ ?_
  · exact jX9_eager_24 F hdep a0 a1 a2 a0 m2 ha0 ha0
  · refine xj_iload_n F 2 dX9_eager_14 rfl ?_
    refine xj_iconst F 0 dX9_eager_15 (by decide) ?_
    refine xj_bipush F 7 dX9_eager_16 (by decide) ?_
    refine xj_callSI (As := [.int a2, .int 0, .int 7]) (d' := 0) F lmX9_155 rfl rfl (Nat.le_of_ble_eq_true rfl) (xfit (Nat.le_trans (Nat.le_of_ble_eq_true rfl) hdep)) dX9_eager_18 (fun hT z hz => wX9_in (xnd F) (Nat.le_refl _) hT (a0 := a2) (a1 := 0) (a2 := 7)  z hz) (fun v5 m4 => ?_)
    refine xj_if_ne (tgt := 28) F dX9_eager_21 (by decide) ?_ ?_
    · refine xj_iconst F 0 dX9_eager_28 (by decide) ?_
      exact jX9_eager_29 F hdep a0 a1 a2 a0 0 m4 ha0 ha0
    · exact jX9_eager_24 F hdep a0 a1 a2 a0 m4 ha0 ha0
set_option maxRecDepth 20000 in
set_option maxHeartbeats 4000000 in
theorem jX9_value_55 {G : XG} {l : Launch} {d : Nat} {X : XX} (F : xF (xE G d) G X mX9_value) (hdep : 604 ≤ d) : ∀ (q0 : Nat) (x3 : Int32) (p0 : Nat) (s1 : Int32) (m0 : XM), isa G q0 9 → isa G p0 9 → xJ (xE G d) (xQ xrI G X mX9_value) G l X mX9_value 55 [(0, .ref (xad G q0)), (3, .int x3)] [.int s1, .ref (xad G p0)] m0 (fX9_value_55 (xln G) q0 x3 p0 s1 m0) := by
  intro q0 x3 p0 s1 m0 hq0 hp0
  unfold fX9_value_55
  refine xj_iconst F 1 dX9_value_55 (by decide) ?_
  refine xj_iconst F 0 dX9_value_56 (by decide) ?_
  refine xj_callVI (b := p0) (As := [.int s1, .int 1, .int 0]) (d' := 0) F hp0 lmX9_257 rfl rfl (Nat.le_of_ble_eq_true rfl) (xfit (Nat.le_trans (Nat.le_of_ble_eq_true rfl) hdep)) dX9_value_57 (fun hT z hz => wX9_bad (xnd F) (Nat.le_refl _) hT (a0 := p0) (a1 := s1) (a2 := 1) (a3 := 0) hp0 z hz) (fun v2 m1 => ?_)
  refine xj_if_eq (tgt := 65) F dX9_value_60 (by decide) ?_ ?_
  · refine xj_aload_n F 0 dX9_value_65 rfl ?_
    refine xj_callVV (b := q0) (As := []) (d' := 603) F hq0 lmX9_382 rfl rfl (Nat.le_of_ble_eq_true rfl) (xfit (Nat.le_trans (Nat.le_of_ble_eq_true rfl) hdep)) dX9_value_66 (fun hT z hz => wX9_lays (xnd F) (Nat.le_refl _) hT (a0 := q0) hq0 z hz) (fun m3 => ?_)
    refine xj_aload_n F 0 dX9_value_69 rfl ?_
    refine xj_getR F hq0 lgX9_45 dX9_value_70 (fun u4 hu4 => ?_)
    refine xj_iload_n F 1 dX9_value_73 rfl ?_
    refine xj_iald F hu4 dX9_value_74 (fun v5 => ?_)
    exact xj_ret F rfl dX9_value_75
  · refine xj_iconst F 0 dX9_value_63 (by decide) ?_
    exact xj_ret F rfl dX9_value_64
set_option maxRecDepth 20000 in
set_option maxHeartbeats 4000000 in
theorem jX9_value_50 {G : XG} {l : Launch} {d : Nat} {X : XX} (F : xF (xE G d) G X mX9_value) (hdep : 604 ≤ d) : ∀ (q0 : Nat) (x3 : Int32) (p0 : Nat) (m0 : XM), isa G q0 9 → isa G p0 9 → xJ (xE G d) (xQ xrI G X mX9_value) G l X mX9_value 50 [(0, .ref (xad G q0)), (3, .int x3)] [.ref (xad G p0)] m0 (fX9_value_50 (xln G) q0 x3 p0 m0) := by
  intro q0 x3 p0 m0 hq0 hp0
  unfold fX9_value_50
  refine xj_iconst F 1 dX9_value_50 (by decide) ?_
  refine xj_goto (tgt := 55) F dX9_value_51 (by decide) ?_
  exact jX9_value_55 F hdep q0 x3 p0 1 m0 hq0 hp0
set_option maxRecDepth 20000 in
set_option maxHeartbeats 4000000 in
theorem jX9_value_26 {G : XG} {l : Launch} {d : Nat} {X : XX} (F : xF (xE G d) G X mX9_value) (hdep : 604 ≤ d) : ∀ (q0 : Nat) (s0 : Int32) (m0 : XM), isa G q0 9 → xJ (xE G d) (xQ xrI G X mX9_value) G l X mX9_value 26 [(0, .ref (xad G q0))] [.int s0] m0 (fX9_value_26 (xln G) q0 s0 m0) := by
  intro q0 s0 m0 hq0
  unfold fX9_value_26
  refine xj_istore_n (lv' := [(3, .int s0), (0, .ref (xad G q0))]) F dX9_value_26 (by decide) rfl ?_
  refine xj_aload_n F 1 dX9_value_27 rfl ?_
  refine xj_iload_n F 0 dX9_value_28 rfl ?_
  refine xj_iconst F (-1) dX9_value_29 (by decide) ?_
  refine xj_icmp_eq (tgt := 50) F dX9_value_30 (by decide) ?_ ?_
  · refine xj_sub (lv' := [(0, .ref (xad G q0)), (3, .int s0)]) [1, 0] rfl ?_
    exact jX9_value_50 F hdep q0 s0 q0 m0 hq0 hq0
  · refine xj_aload_n F 1 dX9_value_33 rfl ?_
    refine xj_getR F hq0 lgX9_20 dX9_value_34 (fun u1 hu1 => ?_)
    refine xj_iconst F 0 dX9_value_37 (by decide) ?_
    refine xj_iload_n F 0 dX9_value_38 rfl ?_
    refine xj_callSI (As := [.int 0, .int s0]) (d' := 0) F lmX9_165 rfl rfl (Nat.le_of_ble_eq_true rfl) (xfit (Nat.le_trans (Nat.le_of_ble_eq_true rfl) hdep)) dX9_value_39 (fun hT z hz => wX9_more (xnd F) (Nat.le_refl _) hT (a0 := 0) (a1 := s0)  z hz) (fun v3 m2 => ?_)
    refine xj_iconst F 0 dX9_value_42 (by decide) ?_
    refine xj_callSI (As := [.ref (xad G u1), .int v3, .int 0]) (d' := 0) F lmX9_104 rfl rfl (Nat.le_of_ble_eq_true rfl) (xfit (Nat.le_trans (Nat.le_of_ble_eq_true rfl) hdep)) dX9_value_43 (fun hT z hz => wX9_ofMember (xnd F) (Nat.le_refl _) hT (a0 := u1) (a1 := v3) (a2 := 0) hu1 z hz) (fun v5 m4 => ?_)
    refine xj_iconst F 1 dX9_value_46 (by decide) ?_
    refine xj_icmp_eq (tgt := 54) F dX9_value_47 (by decide) ?_ ?_
    · refine xj_iconst F 0 dX9_value_54 (by decide) ?_
      refine xj_sub (lv' := [(0, .ref (xad G q0)), (3, .int s0)]) [1, 0] rfl ?_
      exact jX9_value_55 F hdep q0 s0 q0 0 m4 hq0 hq0
    · refine xj_sub (lv' := [(0, .ref (xad G q0)), (3, .int s0)]) [1, 0] rfl ?_
      exact jX9_value_50 F hdep q0 s0 q0 m4 hq0 hq0
set_option maxRecDepth 20000 in
set_option maxHeartbeats 4000000 in
theorem wX9_value {G : XG} {l : Launch} {d : Nat} (hn : xN G) (hdep : 604 ≤ d) {m0 : XM} (hT : xT G m0) {a0 : Nat} {a1 : Int32} {a2 : Int32} (ha0 : isa G a0 9) : ∀ z, fX9_value (xln G) a0 a1 a2 m0 = some z → xMet G l mX9_value d [.ref (xad G a0), .int a1, .int a2] m0 (xrI z) := by
  refine xMet_of (by decide +kernel) hn hT (Nat.le_of_ble_eq_true rfl) (fun X F => ?_)
  refine xj_sub (lv' := [(0, .ref (xad G a0)), (1, .int a1), (2, .int a2)]) [0, 1, 2] rfl ?_
  unfold fX9_value
  refine xj_aload_n F 0 dX9_value_0 rfl ?_
  refine xj_iconst F 0 dX9_value_1 (by decide) ?_
  refine xj_put F ha0 lpX9_91 dX9_value_2 (fun m1 => ?_)
  refine xj_aload_n F 0 dX9_value_5 rfl ?_
  refine xj_iload_n F 1 dX9_value_6 rfl ?_
  refine xj_callVI (b := a0) (As := [.int a1]) (d' := 1) F ha0 lmX9_283 rfl rfl (Nat.le_of_ble_eq_true rfl) (xfit (Nat.le_trans (Nat.le_of_ble_eq_true rfl) hdep)) dX9_value_7 (fun hT z hz => wX9_isUnit (xnd F) (Nat.le_refl _) hT (a0 := a0) (a1 := a1) ha0 z hz) (fun v3 m2 => ?_)
  refine xj_if_eq (tgt := 25) F dX9_value_10 (by decide) ?_ ?_
  · refine xj_iconst F (-1) dX9_value_25 (by decide) ?_
    refine xj_sub (lv' := [(0, .ref (xad G a0))]) [0] rfl ?_
    exact jX9_value_26 F hdep a0 (-1) m2 ha0
  · refine xj_aload_n F 0 dX9_value_13 rfl ?_
    refine xj_getR F ha0 lgX9_20 dX9_value_14 (fun u4 hu4 => ?_)
    refine xj_iload_n F 1 dX9_value_17 rfl ?_
    refine xj_iload_n F 2 dX9_value_18 rfl ?_
    refine xj_callSI (As := [.ref (xad G u4), .int a1, .int a2]) (d' := 1) F lmX9_215 rfl rfl (Nat.le_of_ble_eq_true rfl) (xfit (Nat.le_trans (Nat.le_of_ble_eq_true rfl) hdep)) dX9_value_19 (fun hT z hz => wX9_named (xnd F) (Nat.le_refl _) hT (a0 := u4) (a1 := a1) (a2 := a2) hu4 z hz) (fun v6 m5 => ?_)
    refine xj_goto (tgt := 26) F dX9_value_22 (by decide) ?_
    refine xj_sub (lv' := [(0, .ref (xad G a0))]) [0] rfl ?_
    exact jX9_value_26 F hdep a0 v6 m5 ha0
set_option maxRecDepth 20000 in
set_option maxHeartbeats 4000000 in
theorem jX9_state_19 {G : XG} {l : Launch} {d : Nat} {X : XX} (F : xF (xE G d) G X mX9_state) (hdep : 604 ≤ d) : ∀ (q0 : Nat) (x1 : Int32) (p0 : Nat) (s1 : Int32) (m0 : XM), isa G q0 9 → isa G p0 9 → xJ (xE G d) (xQ xrI G X mX9_state) G l X mX9_state 19 [(0, .ref (xad G q0)), (1, .int x1)] [.int s1, .ref (xad G p0)] m0 (fX9_state_19 (xln G) q0 x1 p0 s1 m0) := by
  intro q0 x1 p0 s1 m0 hq0 hp0
  unfold fX9_state_19
  refine xj_iconst F 1 dX9_state_19 (by decide) ?_
  refine xj_iconst F 0 dX9_state_20 (by decide) ?_
  refine xj_callVI (b := p0) (As := [.int s1, .int 1, .int 0]) (d' := 0) F hp0 lmX9_257 rfl rfl (Nat.le_of_ble_eq_true rfl) (xfit (Nat.le_trans (Nat.le_of_ble_eq_true rfl) hdep)) dX9_state_21 (fun hT z hz => wX9_bad (xnd F) (Nat.le_refl _) hT (a0 := p0) (a1 := s1) (a2 := 1) (a3 := 0) hp0 z hz) (fun v2 m1 => ?_)
  refine xj_if_eq (tgt := 29) F dX9_state_24 (by decide) ?_ ?_
  · refine xj_aload_n F 0 dX9_state_29 rfl ?_
    refine xj_callVV (b := q0) (As := []) (d' := 603) F hq0 lmX9_382 rfl rfl (Nat.le_of_ble_eq_true rfl) (xfit (Nat.le_trans (Nat.le_of_ble_eq_true rfl) hdep)) dX9_state_30 (fun hT z hz => wX9_lays (xnd F) (Nat.le_refl _) hT (a0 := q0) hq0 z hz) (fun m3 => ?_)
    refine xj_aload_n F 0 dX9_state_33 rfl ?_
    refine xj_getR F hq0 lgX9_39 dX9_state_34 (fun u4 hu4 => ?_)
    refine xj_iload_n F 1 dX9_state_37 rfl ?_
    refine xj_iald F hu4 dX9_state_38 (fun v5 => ?_)
    exact xj_ret F rfl dX9_state_39
  · refine xj_iconst F 0 dX9_state_27 (by decide) ?_
    exact xj_ret F rfl dX9_state_28
set_option maxRecDepth 20000 in
set_option maxHeartbeats 4000000 in
theorem wX9_state {G : XG} {l : Launch} {d : Nat} (hn : xN G) (hdep : 604 ≤ d) {m0 : XM} (hT : xT G m0) {a0 : Nat} {a1 : Int32} (ha0 : isa G a0 9) : ∀ z, fX9_state (xln G) a0 a1 m0 = some z → xMet G l mX9_state d [.ref (xad G a0), .int a1] m0 (xrI z) := by
  refine xMet_of (by decide +kernel) hn hT (Nat.le_of_ble_eq_true rfl) (fun X F => ?_)
  refine xj_sub (lv' := [(0, .ref (xad G a0)), (1, .int a1)]) [0, 1] rfl ?_
  unfold fX9_state
  refine xj_aload_n F 0 dX9_state_0 rfl ?_
  refine xj_iconst F 0 dX9_state_1 (by decide) ?_
  refine xj_put F ha0 lpX9_91 dX9_state_2 (fun m1 => ?_)
  refine xj_aload_n F 0 dX9_state_5 rfl ?_
  refine xj_aload_n F 0 dX9_state_6 rfl ?_
  refine xj_iload_n F 1 dX9_state_7 rfl ?_
  refine xj_callVI (b := a0) (As := [.int a1]) (d' := 1) F ha0 lmX9_283 rfl rfl (Nat.le_of_ble_eq_true rfl) (xfit (Nat.le_trans (Nat.le_of_ble_eq_true rfl) hdep)) dX9_state_8 (fun hT z hz => wX9_isUnit (xnd F) (Nat.le_refl _) hT (a0 := a0) (a1 := a1) ha0 z hz) (fun v3 m2 => ?_)
  refine xj_if_ne (tgt := 18) F dX9_state_11 (by decide) ?_ ?_
  · refine xj_iconst F 0 dX9_state_18 (by decide) ?_
    exact jX9_state_19 F hdep a0 a1 a0 0 m2 ha0 ha0
  · refine xj_iconst F 1 dX9_state_14 (by decide) ?_
    refine xj_goto (tgt := 19) F dX9_state_15 (by decide) ?_
    exact jX9_state_19 F hdep a0 a1 a0 1 m2 ha0 ha0
set_option maxRecDepth 20000 in
set_option maxHeartbeats 4000000 in
theorem wX9_begun {G : XG} {l : Launch} {d : Nat} (hn : xN G) (hdep : 604 ≤ d) {m0 : XM} (hT : xT G m0) {a0 : Nat} {a1 : Int32} (ha0 : isa G a0 9) : ∀ z, fX9_begun (xln G) a0 a1 m0 = some z → xMet G l mX9_begun d [.ref (xad G a0), .int a1] m0 (xrI z) := by
  refine xMet_of (by decide +kernel) hn hT (Nat.le_of_ble_eq_true rfl) (fun X F => ?_)
  refine xj_sub (lv' := [(0, .ref (xad G a0)), (1, .int a1)]) [0, 1] rfl ?_
  unfold fX9_begun
  refine xj_aload_n F 0 dX9_begun_0 rfl ?_
  refine xj_iconst F 0 dX9_begun_1 (by decide) ?_
  refine xj_put F ha0 lpX9_91 dX9_begun_2 (fun m1 => ?_)
  refine xj_aload_n F 0 dX9_begun_5 rfl ?_
  refine xj_callVV (b := a0) (As := []) (d' := 603) F ha0 lmX9_382 rfl rfl (Nat.le_of_ble_eq_true rfl) (xfit (Nat.le_trans (Nat.le_of_ble_eq_true rfl) hdep)) dX9_begun_6 (fun hT z hz => wX9_lays (xnd F) (Nat.le_refl _) hT (a0 := a0) ha0 z hz) (fun m2 => ?_)
  refine xj_iload_n F 1 dX9_begun_9 rfl ?_
  refine xj_iconst F 0 dX9_begun_10 (by decide) ?_
  refine xj_aload_n F 0 dX9_begun_11 rfl ?_
  refine xj_get F ha0 lgX9_325 dX9_begun_12 (fun v3 => ?_)
  refine xj_iconst F 1 dX9_begun_15 (by decide) ?_
  refine xj_isub F dX9_begun_16 (fun v4 => ?_)
  refine xj_callSI (As := [.int a1, .int 0, .int v4]) (d' := 0) F lmX9_155 rfl rfl (Nat.le_of_ble_eq_true rfl) (xfit (Nat.le_trans (Nat.le_of_ble_eq_true rfl) hdep)) dX9_begun_17 (fun hT z hz => wX9_in (xnd F) (Nat.le_refl _) hT (a0 := a1) (a1 := 0) (a2 := v4)  z hz) (fun v6 m5 => ?_)
  refine xj_if_eq (tgt := 32) F dX9_begun_20 (by decide) ?_ ?_
  · refine xj_iconst F (-1) dX9_begun_32 (by decide) ?_
    exact xj_ret F rfl dX9_begun_33
  · refine xj_aload_n F 0 dX9_begun_23 rfl ?_
    refine xj_getR F ha0 lgX9_42 dX9_begun_24 (fun u7 hu7 => ?_)
    refine xj_iload_n F 1 dX9_begun_27 rfl ?_
    refine xj_iald F hu7 dX9_begun_28 (fun v8 => ?_)
    refine xj_goto (tgt := 33) F dX9_begun_29 (by decide) ?_
    exact xj_ret F rfl dX9_begun_33
set_option maxRecDepth 20000 in
set_option maxHeartbeats 4000000 in
theorem jX9_surprise_52 {G : XG} {l : Launch} {d : Nat} {X : XX} (F : xF (xE G d) G X mX9_surprise) (hdep : 604 ≤ d) : ∀ (q0 : Nat) (x1 : Int32) (x2 : Int32) (p0 : Nat) (s1 : Int32) (m0 : XM), isa G q0 9 → isa G p0 9 → xJ (xE G d) (xQ xrI G X mX9_surprise) G l X mX9_surprise 52 [(0, .ref (xad G q0)), (1, .int x1), (2, .int x2)] [.int s1, .ref (xad G p0)] m0 (fX9_surprise_52 (xln G) q0 x1 x2 p0 s1 m0) := by
  intro q0 x1 x2 p0 s1 m0 hq0 hp0
  unfold fX9_surprise_52
  refine xj_iconst F 2 dX9_surprise_52 (by decide) ?_
  refine xj_iconst F 1 dX9_surprise_53 (by decide) ?_
  refine xj_callVI (b := p0) (As := [.int s1, .int 2, .int 1]) (d' := 0) F hp0 lmX9_257 rfl rfl (Nat.le_of_ble_eq_true rfl) (xfit (Nat.le_trans (Nat.le_of_ble_eq_true rfl) hdep)) dX9_surprise_54 (fun hT z hz => wX9_bad (xnd F) (Nat.le_refl _) hT (a0 := p0) (a1 := s1) (a2 := 2) (a3 := 1) hp0 z hz) (fun v2 m1 => ?_)
  refine xj_if_eq (tgt := 62) F dX9_surprise_57 (by decide) ?_ ?_
  · refine xj_aload_n F 0 dX9_surprise_62 rfl ?_
    refine xj_getR F hq0 lgX9_66 dX9_surprise_63 (fun u3 hu3 => ?_)
    refine xj_bipush F 6 dX9_surprise_66 (by decide) ?_
    refine xj_iload_n F 1 dX9_surprise_68 rfl ?_
    refine xj_imul F dX9_surprise_69 (fun v4 => ?_)
    refine xj_iload_n F 2 dX9_surprise_70 rfl ?_
    refine xj_iadd F dX9_surprise_71 (fun v5 => ?_)
    refine xj_iald F hu3 dX9_surprise_72 (fun v6 => ?_)
    exact xj_ret F rfl dX9_surprise_73
  · refine xj_iconst F 0 dX9_surprise_60 (by decide) ?_
    exact xj_ret F rfl dX9_surprise_61
set_option maxRecDepth 20000 in
set_option maxHeartbeats 4000000 in
theorem jX9_surprise_29 {G : XG} {l : Launch} {d : Nat} {X : XX} (F : xF (xE G d) G X mX9_surprise) (hdep : 604 ≤ d) : ∀ (q0 : Nat) (x1 : Int32) (x2 : Int32) (p0 : Nat) (s1 : Int32) (m0 : XM), isa G q0 9 → isa G p0 9 → xJ (xE G d) (xQ xrI G X mX9_surprise) G l X mX9_surprise 29 [(0, .ref (xad G q0)), (1, .int x1), (2, .int x2)] [.int s1, .ref (xad G p0)] m0 (fX9_surprise_29 (xln G) q0 x1 x2 p0 s1 m0) := by
  intro q0 x1 x2 p0 s1 m0 hq0 hp0
  unfold fX9_surprise_29
  refine xj_iconst F 1 dX9_surprise_29 (by decide) ?_
  refine xj_iconst F 0 dX9_surprise_30 (by decide) ?_
  refine xj_callVI (b := p0) (As := [.int s1, .int 1, .int 0]) (d' := 0) F hp0 lmX9_257 rfl rfl (Nat.le_of_ble_eq_true rfl) (xfit (Nat.le_trans (Nat.le_of_ble_eq_true rfl) hdep)) dX9_surprise_31 (fun hT z hz => wX9_bad (xnd F) (Nat.le_refl _) hT (a0 := p0) (a1 := s1) (a2 := 1) (a3 := 0) hp0 z hz) (fun v2 m1 => ?_)
  refine xj_if_ne (tgt := 60) F dX9_surprise_34 (by decide) ?_ ?_
  · refine xj_iconst F 0 dX9_surprise_60 (by decide) ?_
    exact xj_ret F rfl dX9_surprise_61
  · refine xj_aload_n F 0 dX9_surprise_37 rfl ?_
    refine xj_iload_n F 2 dX9_surprise_38 rfl ?_
    refine xj_iconst F 0 dX9_surprise_39 (by decide) ?_
    refine xj_iconst F 5 dX9_surprise_40 (by decide) ?_
    refine xj_callSI (As := [.int x2, .int 0, .int 5]) (d' := 0) F lmX9_155 rfl rfl (Nat.le_of_ble_eq_true rfl) (xfit (Nat.le_trans (Nat.le_of_ble_eq_true rfl) hdep)) dX9_surprise_41 (fun hT z hz => wX9_in (xnd F) (Nat.le_refl _) hT (a0 := x2) (a1 := 0) (a2 := 5)  z hz) (fun v4 m3 => ?_)
    refine xj_if_ne (tgt := 51) F dX9_surprise_44 (by decide) ?_ ?_
    · refine xj_iconst F 0 dX9_surprise_51 (by decide) ?_
      exact jX9_surprise_52 F hdep q0 x1 x2 q0 0 m3 hq0 hq0
    · refine xj_iconst F 1 dX9_surprise_47 (by decide) ?_
      refine xj_goto (tgt := 52) F dX9_surprise_48 (by decide) ?_
      exact jX9_surprise_52 F hdep q0 x1 x2 q0 1 m3 hq0 hq0
set_option maxRecDepth 20000 in
set_option maxHeartbeats 4000000 in
theorem wX9_surprise {G : XG} {l : Launch} {d : Nat} (hn : xN G) (hdep : 604 ≤ d) {m0 : XM} (hT : xT G m0) {a0 : Nat} {a1 : Int32} {a2 : Int32} (ha0 : isa G a0 9) : ∀ z, fX9_surprise (xln G) a0 a1 a2 m0 = some z → xMet G l mX9_surprise d [.ref (xad G a0), .int a1, .int a2] m0 (xrI z) := by
  refine xMet_of (by decide +kernel) hn hT (Nat.le_of_ble_eq_true rfl) (fun X F => ?_)
  refine xj_sub (lv' := [(0, .ref (xad G a0)), (1, .int a1), (2, .int a2)]) [0, 1, 2] rfl ?_
  unfold fX9_surprise
  refine xj_aload_n F 0 dX9_surprise_0 rfl ?_
  refine xj_iconst F 0 dX9_surprise_1 (by decide) ?_
  refine xj_put F ha0 lpX9_91 dX9_surprise_2 (fun m1 => ?_)
  refine xj_aload_n F 0 dX9_surprise_5 rfl ?_
  refine xj_callVV (b := a0) (As := []) (d' := 603) F ha0 lmX9_382 rfl rfl (Nat.le_of_ble_eq_true rfl) (xfit (Nat.le_trans (Nat.le_of_ble_eq_true rfl) hdep)) dX9_surprise_6 (fun hT z hz => wX9_lays (xnd F) (Nat.le_refl _) hT (a0 := a0) ha0 z hz) (fun m2 => ?_)
  refine xj_aload_n F 0 dX9_surprise_9 rfl ?_
  refine xj_iload_n F 1 dX9_surprise_10 rfl ?_
  refine xj_iconst F 0 dX9_surprise_11 (by decide) ?_
  refine xj_aload_n F 0 dX9_surprise_12 rfl ?_
  refine xj_get F ha0 lgX9_358 dX9_surprise_13 (fun v3 => ?_)
  refine xj_iconst F 1 dX9_surprise_16 (by decide) ?_
  refine xj_isub F dX9_surprise_17 (fun v4 => ?_)
  refine xj_callSI (As := [.int a1, .int 0, .int v4]) (d' := 0) F lmX9_155 rfl rfl (Nat.le_of_ble_eq_true rfl) (xfit (Nat.le_trans (Nat.le_of_ble_eq_true rfl) hdep)) dX9_surprise_18 (fun hT z hz => wX9_in (xnd F) (Nat.le_refl _) hT (a0 := a1) (a1 := 0) (a2 := v4)  z hz) (fun v6 m5 => ?_)
  refine xj_if_ne (tgt := 28) F dX9_surprise_21 (by decide) ?_ ?_
  · refine xj_iconst F 0 dX9_surprise_28 (by decide) ?_
    exact jX9_surprise_29 F hdep a0 a1 a2 a0 0 m5 ha0 ha0
  · refine xj_iconst F 1 dX9_surprise_24 (by decide) ?_
    refine xj_goto (tgt := 29) F dX9_surprise_25 (by decide) ?_
    exact jX9_surprise_29 F hdep a0 a1 a2 a0 1 m5 ha0 ha0
set_option maxRecDepth 20000 in
set_option maxHeartbeats 4000000 in
theorem jX9_trace_29 {G : XG} {l : Launch} {d : Nat} {X : XX} (F : xF (xE G d) G X mX9_trace) (hdep : 604 ≤ d) : ∀ (q0 : Nat) (x1 : Int32) (x2 : Int32) (p0 : Nat) (s1 : Int32) (m0 : XM), isa G q0 9 → isa G p0 9 → xJ (xE G d) (xQ xrI G X mX9_trace) G l X mX9_trace 29 [(0, .ref (xad G q0)), (1, .int x1), (2, .int x2)] [.int s1, .ref (xad G p0)] m0 (fX9_trace_29 (xln G) q0 x1 x2 p0 s1 m0) := by
  intro q0 x1 x2 p0 s1 m0 hq0 hp0
  unfold fX9_trace_29
  refine xj_iconst F 1 dX9_trace_29 (by decide) ?_
  refine xj_iconst F 0 dX9_trace_30 (by decide) ?_
  refine xj_callVI (b := p0) (As := [.int s1, .int 1, .int 0]) (d' := 0) F hp0 lmX9_257 rfl rfl (Nat.le_of_ble_eq_true rfl) (xfit (Nat.le_trans (Nat.le_of_ble_eq_true rfl) hdep)) dX9_trace_31 (fun hT z hz => wX9_bad (xnd F) (Nat.le_refl _) hT (a0 := p0) (a1 := s1) (a2 := 1) (a3 := 0) hp0 z hz) (fun v2 m1 => ?_)
  refine xj_if_eq (tgt := 39) F dX9_trace_34 (by decide) ?_ ?_
  · refine xj_iload_n F 2 dX9_trace_39 rfl ?_
    refine xj_iconst F 0 dX9_trace_40 (by decide) ?_
    refine xj_aload_n F 0 dX9_trace_41 rfl ?_
    refine xj_getR F hq0 lgX9_66 dX9_trace_42 (fun u3 hu3 => ?_)
    refine xj_bipush F 6 dX9_trace_45 (by decide) ?_
    refine xj_iload_n F 1 dX9_trace_47 rfl ?_
    refine xj_imul F dX9_trace_48 (fun v4 => ?_)
    refine xj_iconst F 4 dX9_trace_49 (by decide) ?_
    refine xj_iadd F dX9_trace_50 (fun v5 => ?_)
    refine xj_iald F hu3 dX9_trace_51 (fun v6 => ?_)
    refine xj_iconst F 1 dX9_trace_52 (by decide) ?_
    refine xj_isub F dX9_trace_53 (fun v7 => ?_)
    refine xj_callSI (As := [.int x2, .int 0, .int v7]) (d' := 0) F lmX9_155 rfl rfl (Nat.le_of_ble_eq_true rfl) (xfit (Nat.le_trans (Nat.le_of_ble_eq_true rfl) hdep)) dX9_trace_54 (fun hT z hz => wX9_in (xnd F) (Nat.le_refl _) hT (a0 := x2) (a1 := 0) (a2 := v7)  z hz) (fun v9 m8 => ?_)
    refine xj_if_eq (tgt := 89) F dX9_trace_57 (by decide) ?_ ?_
    · refine xj_iconst F (-1) dX9_trace_89 (by decide) ?_
      exact xj_ret F rfl dX9_trace_90
    · refine xj_bipush F 100 dX9_trace_60 (by decide) ?_
      refine xj_aload_n F 0 dX9_trace_62 rfl ?_
      refine xj_getR F hq0 lgX9_70 dX9_trace_63 (fun u10 hu10 => ?_)
      refine xj_bipush F 20 dX9_trace_66 (by decide) ?_
      refine xj_iload_n F 1 dX9_trace_68 rfl ?_
      refine xj_imul F dX9_trace_69 (fun v11 => ?_)
      refine xj_iload_n F 2 dX9_trace_70 rfl ?_
      refine xj_iadd F dX9_trace_71 (fun v12 => ?_)
      refine xj_iald F hu10 dX9_trace_72 (fun v13 => ?_)
      refine xj_imul F dX9_trace_73 (fun v14 => ?_)
      refine xj_aload_n F 0 dX9_trace_74 rfl ?_
      refine xj_getR F hq0 lgX9_73 dX9_trace_75 (fun u15 hu15 => ?_)
      refine xj_bipush F 20 dX9_trace_78 (by decide) ?_
      refine xj_iload_n F 1 dX9_trace_80 rfl ?_
      refine xj_imul F dX9_trace_81 (fun v16 => ?_)
      refine xj_iload_n F 2 dX9_trace_82 rfl ?_
      refine xj_iadd F dX9_trace_83 (fun v17 => ?_)
      refine xj_iald F hu15 dX9_trace_84 (fun v18 => ?_)
      refine xj_iadd F dX9_trace_85 (fun v19 => ?_)
      refine xj_goto (tgt := 90) F dX9_trace_86 (by decide) ?_
      exact xj_ret F rfl dX9_trace_90
  · refine xj_iconst F 0 dX9_trace_37 (by decide) ?_
    exact xj_ret F rfl dX9_trace_38
