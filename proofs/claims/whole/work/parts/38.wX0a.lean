set_option maxRecDepth 20000 in
set_option maxHeartbeats 4000000 in
theorem wX0_forget {G : XG} {l : Launch} {d : Nat} (hn : xN G) (hdep : 0 ≤ d) {m0 : XM} (hT : xT G m0) {a0 : Nat} (ha0 : isa G a0 0) : ∀ z, fX0_forget (xln G) a0 m0 = some z → xMet G l mX0_forget d [.ref (xad G a0)] m0 (xrV z) := by
  refine xMet_of (by decide +kernel) hn hT (Nat.le_of_ble_eq_true rfl) (fun X F => ?_)
  refine xj_sub (lv' := [(0, .ref (xad G a0))]) [0] rfl ?_
  unfold fX0_forget
  refine xj_aload_n F 0 dX0_forget_0 rfl ?_
  refine xj_iconst F 0 dX0_forget_1 (by decide) ?_
  refine xj_put F ha0 lpX0_21 dX0_forget_2 (fun m1 => ?_)
  exact xj_retV F rfl dX0_forget_5
set_option maxRecDepth 20000 in
set_option maxHeartbeats 4000000 in
theorem wX0_note {G : XG} {l : Launch} {d : Nat} (hn : xN G) (hdep : 1 ≤ d) {m0 : XM} (hT : xT G m0) {a0 : Nat} {a1 : Int32} {a2 : Int32} {a3 : Int32} (ha0 : isa G a0 0) : ∀ z, fX0_note (xln G) a0 a1 a2 a3 m0 = some z → xMet G l mX0_note d [.ref (xad G a0), .int a1, .int a2, .int a3] m0 (xrV z) := by
  refine xMet_of (by decide +kernel) hn hT (Nat.le_of_ble_eq_true rfl) (fun X F => ?_)
  refine xj_sub (lv' := [(0, .ref (xad G a0)), (1, .int a1), (2, .int a2), (3, .int a3)]) [0, 1, 2, 3] rfl ?_
  unfold fX0_note
  refine xj_aload_n F 0 dX0_note_0 rfl ?_
  refine xj_getR F ha0 lgX0_9 dX0_note_1 (fun u1 hu1 => ?_)
  refine xj_aload_n F 0 dX0_note_4 rfl ?_
  refine xj_get F ha0 lgX0_25 dX0_note_5 (fun v2 => ?_)
  refine xj_iload_n F 1 dX0_note_8 rfl ?_
  refine xj_iast F hu1 dX0_note_9 (fun m3 => ?_)
  refine xj_aload_n F 0 dX0_note_10 rfl ?_
  refine xj_getR F ha0 lgX0_15 dX0_note_11 (fun u4 hu4 => ?_)
  refine xj_aload_n F 0 dX0_note_14 rfl ?_
  refine xj_get F ha0 lgX0_25 dX0_note_15 (fun v5 => ?_)
  refine xj_iload_n F 2 dX0_note_18 rfl ?_
  refine xj_iast F hu4 dX0_note_19 (fun m6 => ?_)
  refine xj_aload_n F 0 dX0_note_20 rfl ?_
  refine xj_getR F ha0 lgX0_18 dX0_note_21 (fun u7 hu7 => ?_)
  refine xj_aload_n F 0 dX0_note_24 rfl ?_
  refine xj_get F ha0 lgX0_25 dX0_note_25 (fun v8 => ?_)
  refine xj_iload_n F 3 dX0_note_28 rfl ?_
  refine xj_iast F hu7 dX0_note_29 (fun m9 => ?_)
  refine xj_aload_n F 0 dX0_note_30 rfl ?_
  refine xj_aload_n F 0 dX0_note_31 rfl ?_
  refine xj_get F ha0 lgX0_25 dX0_note_32 (fun v10 => ?_)
  refine xj_iconst F 1 dX0_note_35 (by decide) ?_
  refine xj_iadd F dX0_note_36 (fun v11 => ?_)
  refine xj_bipush F 16 dX0_note_37 (by decide) ?_
  refine xj_irem F dX0_note_39 (fun v12 => ?_)
  refine xj_put F ha0 lpX0_25 dX0_note_40 (fun m13 => ?_)
  refine xj_aload_n F 0 dX0_note_43 rfl ?_
  refine xj_aload_n F 0 dX0_note_44 rfl ?_
  refine xj_get F ha0 lgX0_21 dX0_note_45 (fun v14 => ?_)
  refine xj_iconst F 1 dX0_note_48 (by decide) ?_
  refine xj_iadd F dX0_note_49 (fun v15 => ?_)
  refine xj_bipush F 16 dX0_note_50 (by decide) ?_
  refine xj_callSI (As := [.int v15, .int 16]) (d' := 0) F lmX0_28 rfl rfl (Nat.le_of_ble_eq_true rfl) (xfit (Nat.le_trans (Nat.le_of_ble_eq_true rfl) hdep)) dX0_note_52 (fun hT z hz => wJ9_min_7cf53 (xnd F) (Nat.le_refl _) hT (a0 := v15) (a1 := 16)  z hz) (fun v17 m16 => ?_)
  refine xj_put F ha0 lpX0_21 dX0_note_55 (fun m18 => ?_)
  exact xj_retV F rfl dX0_note_58
set_option maxRecDepth 20000 in
set_option maxHeartbeats 4000000 in
theorem wX0_takeBack {G : XG} {l : Launch} {d : Nat} (hn : xN G) (hdep : 2 ≤ d) {m0 : XM} (hT : xT G m0) {a0 : Nat} {a1 : Nat} (ha0 : isa G a0 0) (ha1 : isa G a1 6) : ∀ z, fX0_takeBack (xln G) a0 a1 m0 = some z → xMet G l mX0_takeBack d [.ref (xad G a0), .ref (xad G a1)] m0 (xrI z) := by
  refine xMet_of (by decide +kernel) hn hT (Nat.le_of_ble_eq_true rfl) (fun X F => ?_)
  refine xj_sub (lv' := [(0, .ref (xad G a0)), (1, .ref (xad G a1))]) [0, 1] rfl ?_
  unfold fX0_takeBack
  refine xj_aload_n F 0 dX0_takeBack_0 rfl ?_
  refine xj_get F ha0 lgX0_21 dX0_takeBack_1 (fun v1 => ?_)
  refine xj_if_ne (tgt := 9) F dX0_takeBack_4 (by decide) ?_ ?_
  · refine xj_aload_n F 0 dX0_takeBack_9 rfl ?_
    refine xj_dup F dX0_takeBack_10 rfl ?_
    refine xj_get F ha0 lgX0_21 dX0_takeBack_11 (fun v2 => ?_)
    refine xj_iconst F 1 dX0_takeBack_14 (by decide) ?_
    refine xj_isub F dX0_takeBack_15 (fun v3 => ?_)
    refine xj_put F ha0 lpX0_21 dX0_takeBack_16 (fun m4 => ?_)
    refine xj_aload_n F 0 dX0_takeBack_19 rfl ?_
    refine xj_aload_n F 0 dX0_takeBack_20 rfl ?_
    refine xj_get F ha0 lgX0_25 dX0_takeBack_21 (fun v5 => ?_)
    refine xj_bipush F 16 dX0_takeBack_24 (by decide) ?_
    refine xj_iadd F dX0_takeBack_26 (fun v6 => ?_)
    refine xj_iconst F 1 dX0_takeBack_27 (by decide) ?_
    refine xj_isub F dX0_takeBack_28 (fun v7 => ?_)
    refine xj_bipush F 16 dX0_takeBack_29 (by decide) ?_
    refine xj_irem F dX0_takeBack_31 (fun v8 => ?_)
    refine xj_put F ha0 lpX0_25 dX0_takeBack_32 (fun m9 => ?_)
    refine xj_aload_n F 0 dX0_takeBack_35 rfl ?_
    refine xj_getR F ha0 lgX0_18 dX0_takeBack_36 (fun u10 hu10 => ?_)
    refine xj_aload_n F 0 dX0_takeBack_39 rfl ?_
    refine xj_get F ha0 lgX0_25 dX0_takeBack_40 (fun v11 => ?_)
    refine xj_iald F hu10 dX0_takeBack_43 (fun v12 => ?_)
    refine xj_iconst F (-1) dX0_takeBack_44 (by decide) ?_
    refine xj_icmp_ne (tgt := 73) F dX0_takeBack_45 (by decide) ?_ ?_
    · refine xj_aload_n F 1 dX0_takeBack_73 rfl ?_
      refine xj_aload_n F 0 dX0_takeBack_74 rfl ?_
      refine xj_getR F ha0 lgX0_9 dX0_takeBack_75 (fun u13 hu13 => ?_)
      refine xj_aload_n F 0 dX0_takeBack_78 rfl ?_
      refine xj_get F ha0 lgX0_25 dX0_takeBack_79 (fun v14 => ?_)
      refine xj_iald F hu13 dX0_takeBack_82 (fun v15 => ?_)
      refine xj_aload_n F 0 dX0_takeBack_83 rfl ?_
      refine xj_getR F ha0 lgX0_18 dX0_takeBack_84 (fun u16 hu16 => ?_)
      refine xj_aload_n F 0 dX0_takeBack_87 rfl ?_
      refine xj_get F ha0 lgX0_25 dX0_takeBack_88 (fun v17 => ?_)
      refine xj_iald F hu16 dX0_takeBack_91 (fun v18 => ?_)
      refine xj_aload_n F 0 dX0_takeBack_92 rfl ?_
      refine xj_getR F ha0 lgX0_15 dX0_takeBack_93 (fun u19 hu19 => ?_)
      refine xj_aload_n F 0 dX0_takeBack_96 rfl ?_
      refine xj_get F ha0 lgX0_25 dX0_takeBack_97 (fun v20 => ?_)
      refine xj_iald F hu19 dX0_takeBack_100 (fun v21 => ?_)
      refine xj_callVV (b := a1) (As := [.int v15, .int v18, .int v21]) (d' := 0) F ha1 lmX0_40 rfl rfl (Nat.le_of_ble_eq_true rfl) (xfit (Nat.le_trans (Nat.le_of_ble_eq_true rfl) hdep)) dX0_takeBack_101 (fun hT z hz => wX6_shift (xnd F) (Nat.le_refl _) hT (a0 := a1) (a1 := v15) (a2 := v18) (a3 := v21) ha1 z hz) (fun m22 => ?_)
      refine xj_iconst F 1 dX0_takeBack_104 (by decide) ?_
      exact xj_retZ F rfl rfl dX0_takeBack_105
    · refine xj_aload_n F 1 dX0_takeBack_48 rfl ?_
      refine xj_aload_n F 0 dX0_takeBack_49 rfl ?_
      refine xj_getR F ha0 lgX0_9 dX0_takeBack_50 (fun u23 hu23 => ?_)
      refine xj_aload_n F 0 dX0_takeBack_53 rfl ?_
      refine xj_get F ha0 lgX0_25 dX0_takeBack_54 (fun v24 => ?_)
      refine xj_iald F hu23 dX0_takeBack_57 (fun v25 => ?_)
      refine xj_aload_n F 0 dX0_takeBack_58 rfl ?_
      refine xj_getR F ha0 lgX0_15 dX0_takeBack_59 (fun u26 hu26 => ?_)
      refine xj_aload_n F 0 dX0_takeBack_62 rfl ?_
      refine xj_get F ha0 lgX0_25 dX0_takeBack_63 (fun v27 => ?_)
      refine xj_iald F hu26 dX0_takeBack_66 (fun v28 => ?_)
      refine xj_callVV (b := a1) (As := [.int v25, .int v28]) (d' := 1) F ha1 lmX0_34 rfl rfl (Nat.le_of_ble_eq_true rfl) (xfit (Nat.le_trans (Nat.le_of_ble_eq_true rfl) hdep)) dX0_takeBack_67 (fun hT z hz => wX6_flip (xnd F) (Nat.le_refl _) hT (a0 := a1) (a1 := v25) (a2 := v28) ha1 z hz) (fun m29 => ?_)
      refine xj_goto (tgt := 104) F dX0_takeBack_70 (by decide) ?_
      refine xj_iconst F 1 dX0_takeBack_104 (by decide) ?_
      exact xj_retZ F rfl rfl dX0_takeBack_105
  · refine xj_iconst F 0 dX0_takeBack_7 (by decide) ?_
    exact xj_retZ F rfl rfl dX0_takeBack_8
