set_option maxRecDepth 20000 in
set_option maxHeartbeats 4000000 in
theorem jX4_keep_54 {G : XG} {l : Launch} {d : Nat} {X : XX} (F : xF (xE G d) G X mX4_keep) (hdep : 0 ≤ d) : ∀ (n : Nat) (q0 : Nat) (q1 : Nat) (x3 : Int32) (m0 : XM), isa G q0 4 → isa G q1 2 → xJ (xE G d) (xQ xrV G X mX4_keep) G l X mX4_keep 54 [(0, .ref (xad G q0)), (1, .ref (xad G q1)), (3, .int x3)] [] m0 (fX4_keep_54 (xln G) n q0 q1 x3 m0) := by
  intro n
  induction n with
  | zero => intro q0 q1 x3 m0 hq0 hq1; exact xj_none
  | succ n hr54 =>
    intro q0 q1 x3 m0 hq0 hq1
    unfold fX4_keep_54
    generalize hrg54 : (fun q0 q1 x3 m0 => fX4_keep_54 (xln G) n q0 q1 x3 m0) = r54
    have hr54 : ∀ (q0 : Nat) (q1 : Nat) (x3 : Int32) (m0 : XM), isa G q0 4 → isa G q1 2 → xJ (xE G d) (xQ xrV G X mX4_keep) G l X mX4_keep 54 [(0, .ref (xad G q0)), (1, .ref (xad G q1)), (3, .int x3)] [] m0 (r54 q0 q1 x3 m0) := by
      subst hrg54
      exact hr54
    clear hrg54
    refine xj_eq (xv_eq _ _) ?_
    refine xj_iload_n F 2 dX4_keep_54 rfl ?_
    refine xj_aload_n F 0 dX4_keep_55 rfl ?_
    refine xj_get F hq0 lgX4_52 dX4_keep_56 (fun v1 => ?_)
    refine xj_icmp_ge (tgt := 80) F dX4_keep_59 (by decide) ?_ ?_
    · exact xj_retV F rfl dX4_keep_80
    · refine xj_aload_n F 0 dX4_keep_62 rfl ?_
      refine xj_getR F hq0 lgX4_15 dX4_keep_63 (fun u2 hu2 => ?_)
      refine xj_iload_n F 2 dX4_keep_66 rfl ?_
      refine xj_aload_n F 1 dX4_keep_67 rfl ?_
      refine xj_getR F hq1 lgX4_53 dX4_keep_68 (fun u3 hu3 => ?_)
      refine xj_iload_n F 2 dX4_keep_71 rfl ?_
      refine xj_iald F hu3 dX4_keep_72 (fun v4 => ?_)
      refine xj_iast F hu2 dX4_keep_73 (fun m5 => ?_)
      refine xj_iinc F 2 1 (fun v6 => [(3, .int v6), (0, .ref (xad G q0)), (1, .ref (xad G q1))]) dX4_keep_74 rfl (by decide) (by decide) (fun _ => rfl) (fun v6 => ?_)
      refine xj_goto (tgt := 54) F dX4_keep_77 (by decide) ?_
      refine xj_sub (lv' := [(0, .ref (xad G q0)), (1, .ref (xad G q1)), (3, .int v6)]) [1, 2, 0] rfl ?_
      exact hr54 q0 q1 v6 m5 hq0 hq1
set_option maxRecDepth 20000 in
set_option maxHeartbeats 4000000 in
theorem wX4_keep {G : XG} {l : Launch} {d : Nat} (hn : xN G) (hdep : 0 ≤ d) {m0 : XM} (hT : xT G m0) {a0 : Nat} {a1 : Nat} {a2 : Int32} (ha0 : isa G a0 4) (ha1 : isa G a1 2) : ∀ z, fX4_keep (xln G) a0 a1 a2 m0 = some z → xMet G l mX4_keep d [.ref (xad G a0), .ref (xad G a1), .int a2] m0 (xrV z) := by
  refine xMet_of (by decide +kernel) hn hT (Nat.le_of_ble_eq_true rfl) (fun X F => ?_)
  refine xj_sub (lv' := [(0, .ref (xad G a0)), (1, .ref (xad G a1)), (2, .int a2)]) [0, 1, 2] rfl ?_
  unfold fX4_keep
  refine xj_aload_n F 0 dX4_keep_0 rfl ?_
  refine xj_iload_n F 2 dX4_keep_1 rfl ?_
  refine xj_put F ha0 lpX4_19 dX4_keep_2 (fun m1 => ?_)
  refine xj_aload_n F 0 dX4_keep_5 rfl ?_
  refine xj_aload_n F 1 dX4_keep_6 rfl ?_
  refine xj_getR F ha1 lgX4_22 dX4_keep_7 (fun u2 hu2 => ?_)
  refine xj_getR F hu2 lgX4_28 dX4_keep_10 (fun u3 hu3 => ?_)
  refine xj_iload_n F 2 dX4_keep_13 rfl ?_
  refine xj_iald F hu3 dX4_keep_14 (fun v4 => ?_)
  refine xj_put F ha0 lpX4_33 dX4_keep_15 (fun m5 => ?_)
  refine xj_aload_n F 0 dX4_keep_18 rfl ?_
  refine xj_aload_n F 1 dX4_keep_19 rfl ?_
  refine xj_getR F ha1 lgX4_35 dX4_keep_20 (fun u6 hu6 => ?_)
  refine xj_iload_n F 2 dX4_keep_23 rfl ?_
  refine xj_iald F hu6 dX4_keep_24 (fun v7 => ?_)
  refine xj_put F ha0 lpX4_38 dX4_keep_25 (fun m8 => ?_)
  refine xj_aload_n F 0 dX4_keep_28 rfl ?_
  refine xj_aload_n F 1 dX4_keep_29 rfl ?_
  refine xj_get F ha1 lgX4_41 dX4_keep_30 (fun v9 => ?_)
  refine xj_put F ha0 lpX4_44 dX4_keep_33 (fun m10 => ?_)
  refine xj_aload_n F 0 dX4_keep_36 rfl ?_
  refine xj_aload_n F 1 dX4_keep_37 rfl ?_
  refine xj_get F ha1 lgX4_45 dX4_keep_38 (fun v11 => ?_)
  refine xj_put F ha0 lpX4_48 dX4_keep_41 (fun m12 => ?_)
  refine xj_aload_n F 0 dX4_keep_44 rfl ?_
  refine xj_aload_n F 1 dX4_keep_45 rfl ?_
  refine xj_get F ha1 lgX4_49 dX4_keep_46 (fun v13 => ?_)
  refine xj_put F ha0 lpX4_52 dX4_keep_49 (fun m14 => ?_)
  refine xj_iconst F 0 dX4_keep_52 (by decide) ?_
  refine xj_istore_n (lv' := [(3, .int 0), (0, .ref (xad G a0)), (1, .ref (xad G a1)), (2, .int a2)]) F dX4_keep_53 (by decide) rfl ?_
  refine xj_sub (lv' := [(0, .ref (xad G a0)), (1, .ref (xad G a1)), (3, .int 0)]) [1, 2, 0] rfl ?_
  exact jX4_keep_54 F hdep XF a0 a1 0 m14 ha0 ha1
set_option maxRecDepth 20000 in
set_option maxHeartbeats 4000000 in
theorem wX4_tell {G : XG} {l : Launch} {d : Nat} (hn : xN G) (hdep : 0 ≤ d) {m0 : XM} (hT : xT G m0) {a0 : Nat} {a1 : Int32} (ha0 : isa G a0 4) : ∀ z, fX4_tell (xln G) a0 a1 m0 = some z → xMet G l mX4_tell d [.ref (xad G a0), .int a1] m0 (xrI z) := by
  refine xMet_of (by decide +kernel) hn hT (Nat.le_of_ble_eq_true rfl) (fun X F => ?_)
  refine xj_sub (lv' := [(0, .ref (xad G a0)), (1, .int a1)]) [0, 1] rfl ?_
  unfold fX4_tell
  refine xj_iload_n F 1 dX4_tell_0 rfl ?_
  refine xj_ite (c := a1 = 0) (fun h1 => ?_) (fun h1 => ?_)
  · refine xj_tabIn F 36 dX4_tell_1 (by subst h1; decide) (by subst h1; decide) (by subst h1; rfl) (by decide) ?_
    refine xj_aload_n F 0 dX4_tell_36 rfl ?_
    refine xj_get F ha0 lgX4_19 dX4_tell_37 (fun v2 => ?_)
    refine xj_bipush F 12 dX4_tell_40 (by decide) ?_
    refine xj_idiv F dX4_tell_42 (fun v3 => ?_)
    exact xj_ret F rfl dX4_tell_43
  · skip
    refine xj_ite (c := a1 = 1) (fun h4 => ?_) (fun h4 => ?_)
    · refine xj_tabIn F 44 dX4_tell_1 (by subst h4; decide) (by subst h4; decide) (by subst h4; rfl) (by decide) ?_
      refine xj_aload_n F 0 dX4_tell_44 rfl ?_
      refine xj_get F ha0 lgX4_33 dX4_tell_45 (fun v5 => ?_)
      exact xj_ret F rfl dX4_tell_48
    · skip
      refine xj_ite (c := a1 = 2) (fun h6 => ?_) (fun h6 => ?_)
      · refine xj_tabIn F 49 dX4_tell_1 (by subst h6; decide) (by subst h6; decide) (by subst h6; rfl) (by decide) ?_
        refine xj_aload_n F 0 dX4_tell_49 rfl ?_
        refine xj_get F ha0 lgX4_38 dX4_tell_50 (fun v7 => ?_)
        exact xj_ret F rfl dX4_tell_53
      · skip
        refine xj_ite (c := a1 = 3) (fun h8 => ?_) (fun h8 => ?_)
        · refine xj_tabIn F 54 dX4_tell_1 (by subst h8; decide) (by subst h8; decide) (by subst h8; rfl) (by decide) ?_
          refine xj_aload_n F 0 dX4_tell_54 rfl ?_
          refine xj_get F ha0 lgX4_44 dX4_tell_55 (fun v9 => ?_)
          exact xj_ret F rfl dX4_tell_58
        · skip
          refine xj_ite (c := a1 = 4) (fun h10 => ?_) (fun h10 => ?_)
          · refine xj_tabIn F 59 dX4_tell_1 (by subst h10; decide) (by subst h10; decide) (by subst h10; rfl) (by decide) ?_
            refine xj_aload_n F 0 dX4_tell_59 rfl ?_
            refine xj_get F ha0 lgX4_52 dX4_tell_60 (fun v11 => ?_)
            exact xj_ret F rfl dX4_tell_63
          · skip
            have eh1 := xne 0 h1 rfl
            have eh4 := xne 1 h4 rfl
            have eh6 := xne 2 h6 rfl
            have eh8 := xne 3 h8 rfl
            have eh10 := xne 4 h10 rfl
            refine xj_tabOut F 64 dX4_tell_1 (by omega) (by decide) ?_
            refine xj_aload_n F 0 dX4_tell_64 rfl ?_
            refine xj_get F ha0 lgX4_48 dX4_tell_65 (fun v12 => ?_)
            exact xj_ret F rfl dX4_tell_68
