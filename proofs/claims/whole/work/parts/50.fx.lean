def fxX8_needArgument (N : Nat → Nat) (a0 : Nat) (a1 : Int32) (m0 : XM) : Option (String × XM) :=
    if (a1 : Int32) = 0 then (xv (gi m0 a0 13) fun v1 => xv (v1 + 1 : Int32) fun v2 => xv (si m0 a0 13 v2) fun m3 => some (xIA, m3)) else (none)
def fxX8_text_18 (N : Nat → Nat) (q0 : Nat) (x1 : Int32) (p0 : Nat) (s1 : Int32) (m0 : XM) : Option (String × XM) :=
    xcx (fxX8_needArgument N p0 s1 m0) <| xcv (fX8_needArgument N p0 s1 m0) fun m1 => xgr m1 q0 2 fun u2 => xgr m1 q0 0 fun u3 => xca (fX1_readText N u2 u3 x1 m1) fun v5 m4 => xv (si m4 q0 1 0) fun m6 => if (v5 : Int32) = 0 then (xv (si m6 q0 11 (-1)) fun m7 => xgr m7 q0 2 fun u8 => xgr m7 q0 3 fun u9 => xca (fX1_handOver N u8 u9 m7) fun u11 m10 => xv (sr m10 q0 3 (some u11)) fun m12 => xgr m12 q0 4 fun u13 => xcv (fX0_forget N u13 m12) fun m14 => xcv (fX8_forgetRuns N q0 m14) fun m15 => xgr m15 q0 3 fun u16 => xv (gi m15 u16 0) fun v17 => none) else (xgr m6 q0 2 fun u18 => xca (fX1_faultPlace N u18 m6) fun v20 m19 => xv (si m19 q0 11 v20) fun m21 => xv (v5 - 10 : Int32) fun v22 => none)
def fxX8_text_17 (N : Nat → Nat) (q0 : Nat) (x1 : Int32) (p0 : Nat) (m0 : XM) : Option (String × XM) :=
    fxX8_text_18 N q0 x1 p0 0 m0
def fxX8_text (N : Nat → Nat) (a0 : Nat) (a1 : Int32) (m0 : XM) : Option (String × XM) :=
    if (a1 : Int32) < 0 then (fxX8_text_17 N a0 a1 a0 m0) else (xv (gi m0 a0 1) fun v1 => if v1 < (a1 : Int32) then (fxX8_text_17 N a0 a1 a0 m0) else (fxX8_text_18 N a0 a1 a0 1 m0))
def fxX8_needElement (N : Nat → Nat) (a0 : Nat) (a1 : Int32) (m0 : XM) : Option (String × XM) :=
    if (a1 : Int32) = 0 then (xv (gi m0 a0 12) fun v1 => xv (v1 + 1 : Int32) fun v2 => xv (si m0 a0 12 v2) fun m3 => some (xNS, m3)) else (none)
def fxX8_needUnit_20 (N : Nat → Nat) (p0 : Nat) (m0 : XM) : Option (String × XM) :=
    xcx (fxX8_needElement N p0 0 m0) <| xcv (fX8_needElement N p0 0 m0) fun m1 => none
def fxX8_needUnit (N : Nat → Nat) (a0 : Nat) (a1 : Int32) (m0 : XM) : Option (String × XM) :=
    if (a1 : Int32) < 0 then (fxX8_needUnit_20 N a0 m0) else (xgr m0 a0 3 fun u1 => xv (gi m0 u1 0) fun v2 => if v2 ≤ (a1 : Int32) then (fxX8_needUnit_20 N a0 m0) else (xcx (fxX8_needElement N a0 1 m0) <| xcv (fX8_needElement N a0 1 m0) fun m3 => none))
def fxX8_needMember_27 (N : Nat → Nat) (p0 : Nat) (m0 : XM) : Option (String × XM) :=
    xcx (fxX8_needElement N p0 0 m0) <| xcv (fX8_needElement N p0 0 m0) fun m1 => none
def fxX8_needMember (N : Nat → Nat) (a0 : Nat) (a1 : Int32) (a2 : Int32) (m0 : XM) : Option (String × XM) :=
    xcx (fxX8_needUnit N a0 a1 m0) <| xcv (fX8_needUnit N a0 a1 m0) fun m1 => if (a2 : Int32) < 0 then (fxX8_needMember_27 N a0 m1) else (xgr m1 a0 3 fun u2 => xgr m1 u2 3 fun u3 => xald N m1 u3 a1 fun v4 => if v4 ≤ (a2 : Int32) then (fxX8_needMember_27 N a0 m1) else (xcx (fxX8_needElement N a0 1 m1) <| xcv (fX8_needElement N a0 1 m1) fun m5 => none))
def fxX8_move (N : Nat → Nat) (a0 : Nat) (a1 : Int32) (a2 : Int32) (a3 : Int32) (m0 : XM) : Option (String × XM) :=
    xcx (fxX8_needMember N a0 a1 a2 m0) <| xcv (fX8_needMember N a0 a1 a2 m0) fun m1 => xcx (fxX8_needMember N a0 a1 a3 m1) <| xcv (fX8_needMember N a0 a1 a3 m1) fun m2 => if (a2 : Int32) = a3 then (none) else (xgr m2 a0 3 fun u3 => xcv (fX6_shift N u3 a1 a2 a3 m2) fun m4 => xgr m4 a0 4 fun u5 => xcv (fX0_note N u5 a1 a2 a3 m4) fun m6 => xcv (fX8_forgetRuns N a0 m6) fun m7 => none)
def fxX8_turn (N : Nat → Nat) (a0 : Nat) (a1 : Int32) (a2 : Int32) (m0 : XM) : Option (String × XM) :=
    xcx (fxX8_needMember N a0 a1 a2 m0) <| xcv (fX8_needMember N a0 a1 a2 m0) fun m1 => xgr m1 a0 3 fun u2 => xcv (fX6_flip N u2 a1 a2 m1) fun m3 => xgr m3 a0 4 fun u4 => xcv (fX0_note N u4 a1 a2 (-1) m3) fun m5 => xcv (fX8_forgetRuns N a0 m5) fun m6 => xgr m6 a0 3 fun u7 => xgr m6 u7 8 fun u8 => xgr m6 a0 3 fun u9 => xca (fX6_memberAt N u9 a1 a2 m6) fun v11 m10 => xald N m10 u8 v11 fun v12 => none
def fxX8_needWhat_14 (N : Nat → Nat) (p0 : Nat) (m0 : XM) : Option (String × XM) :=
    xcx (fxX8_needArgument N p0 0 m0) <| xcv (fX8_needArgument N p0 0 m0) fun m1 => none
def fxX8_needWhat (N : Nat → Nat) (a0 : Nat) (a1 : Int32) (a2 : Int32) (m0 : XM) : Option (String × XM) :=
    if (a1 : Int32) < 0 then (fxX8_needWhat_14 N a0 m0) else (if a2 < (a1 : Int32) then (fxX8_needWhat_14 N a0 m0) else (xcx (fxX8_needArgument N a0 1 m0) <| xcv (fX8_needArgument N a0 1 m0) fun m1 => none))
def fxX8_told (N : Nat → Nat) (a0 : Nat) (a1 : Int32) (m0 : XM) : Option (String × XM) :=
    xcx (fxX8_needWhat N a0 a1 5 m0) <| xcv (fX8_needWhat N a0 a1 5 m0) fun m1 => if (a1 : Int32) = 0 then (xgr m1 a0 3 fun u3 => xv (gi m1 u3 0) fun v4 => none) else (if (a1 : Int32) = 1 then (xgr m1 a0 3 fun u6 => xv (gi m1 u6 11) fun v7 => none) else (if (a1 : Int32) = 2 then (xgr m1 a0 3 fun u9 => xca (fX6_countMembers N u9 0 m1) fun v11 m10 => none) else (if (a1 : Int32) = 3 then (xgr m1 a0 3 fun u13 => xca (fX6_countMembers N u13 1 m1) fun v15 m14 => none) else (if (a1 : Int32) = 4 then (xv (gi m1 a0 1) fun v17 => none) else (xgr m1 a0 4 fun u18 => xv (gi m1 u18 0) fun v19 => none)))))
def fxX8_unit (N : Nat → Nat) (a0 : Nat) (a1 : Int32) (a2 : Int32) (m0 : XM) : Option (String × XM) :=
    xcx (fxX8_needUnit N a0 a1 m0) <| xcv (fX8_needUnit N a0 a1 m0) fun m1 => xcx (fxX8_needWhat N a0 a2 4 m1) <| xcv (fX8_needWhat N a0 a2 4 m1) fun m2 => if (a2 : Int32) = 0 then (xgr m2 a0 3 fun u4 => xgr m2 u4 1 fun u5 => xald N m2 u5 a1 fun v6 => none) else (if (a2 : Int32) = 1 then (xgr m2 a0 3 fun u8 => xgr m2 u8 2 fun u9 => xald N m2 u9 a1 fun v10 => none) else (if (a2 : Int32) = 2 then (xgr m2 a0 3 fun u12 => xgr m2 u12 3 fun u13 => xald N m2 u13 a1 fun v14 => none) else (if (a2 : Int32) = 3 then (xgr m2 a0 3 fun u16 => xca (fX6_countKind N u16 a1 1 m2) fun v18 m17 => none) else (xgr m2 a0 3 fun u19 => xca (fX6_countKind N u19 a1 4 m2) fun v21 m20 => none))))
def fxX8_member (N : Nat → Nat) (a0 : Nat) (a1 : Int32) (a2 : Int32) (a3 : Int32) (m0 : XM) : Option (String × XM) :=
    xcx (fxX8_needMember N a0 a1 a2 m0) <| xcv (fX8_needMember N a0 a1 a2 m0) fun m1 => xcx (fxX8_needWhat N a0 a3 4 m1) <| xcv (fX8_needWhat N a0 a3 4 m1) fun m2 => xgr m2 a0 3 fun u3 => xca (fX6_memberAt N u3 a1 a2 m2) fun v5 m4 => if (a3 : Int32) = 0 then (xgr m4 a0 3 fun u7 => xgr m4 u7 4 fun u8 => xald N m4 u8 v5 fun v9 => none) else (if (a3 : Int32) = 1 then (xgr m4 a0 3 fun u11 => xgr m4 u11 8 fun u12 => xald N m4 u12 v5 fun v13 => none) else (if (a3 : Int32) = 2 then (xgr m4 a0 3 fun u15 => xca (fX6_nameOf N u15 v5 m4) fun v17 m16 => none) else (if (a3 : Int32) = 3 then (xgr m4 a0 3 fun u19 => xca (fX6_termsOf N u19 v5 m4) fun v21 m20 => none) else (xgr m4 a0 3 fun u22 => xca (fX6_detailOf N u22 v5 m4) fun v24 m23 => none))))
def fxX8_lazy (N : Nat → Nat) (a0 : Nat) (a1 : Int32) (m0 : XM) : Option (String × XM) :=
    xcx (fxX8_needWhat N a0 a1 7 m0) <| xcv (fX8_needWhat N a0 a1 7 m0) fun m1 => xcv (fX8_runPlain N a0 m1) fun m2 => xgr m2 a0 5 fun u3 => xca (fX2_tally N u3 a1 m2) fun v5 m4 => none
def fxX8_eager (N : Nat → Nat) (a0 : Nat) (a1 : Int32) (a2 : Int32) (m0 : XM) : Option (String × XM) :=
    xca (fX8_takesOrder N a0 a1 m0) fun v2 m1 => xcx (fxX8_needArgument N a0 v2 m1) <| xcv (fX8_needArgument N a0 v2 m1) fun m3 => xcx (fxX8_needWhat N a0 a2 7 m3) <| xcv (fX8_needWhat N a0 a2 7 m3) fun m4 => xgr m4 a0 7 fun u5 => xgr m4 a0 3 fun u6 => xgr m4 a0 8 fun u7 => xcv (fX2_runAhead N u5 u6 u7 m4) fun m8 => xgr m8 a0 7 fun u9 => xca (fX2_tally N u9 a2 m8) fun v11 m10 => none
def fxX8_value_39 (N : Nat → Nat) (q0 : Nat) (x3 : Int32) (p0 : Nat) (s1 : Int32) (m0 : XM) : Option (String × XM) :=
    xcx (fxX8_needElement N p0 s1 m0) <| xcv (fX8_needElement N p0 s1 m0) fun m1 => xcv (fX8_runPlain N q0 m1) fun m2 => xgr m2 q0 5 fun u3 => xgr m2 u3 2 fun u4 => xald N m2 u4 x3 fun v5 => none
def fxX8_value_38 (N : Nat → Nat) (q0 : Nat) (x3 : Int32) (p0 : Nat) (m0 : XM) : Option (String × XM) :=
    fxX8_value_39 N q0 x3 p0 0 m0
def fxX8_value (N : Nat → Nat) (a0 : Nat) (a1 : Int32) (a2 : Int32) (m0 : XM) : Option (String × XM) :=
    xcx (fxX8_needUnit N a0 a1 m0) <| xcv (fX8_needUnit N a0 a1 m0) fun m1 => xgr m1 a0 3 fun u2 => xca (fX6_memberNamed N u2 a1 a2 m1) fun v4 m3 => if (v4 : Int32) = (-1) then (fxX8_value_38 N a0 v4 a0 m3) else (xgr m3 a0 3 fun u5 => xgr m3 u5 4 fun u6 => xald N m3 u6 v4 fun v7 => if (v7 : Int32) = 1 then (fxX8_value_39 N a0 v4 a0 1 m3) else (fxX8_value_38 N a0 v4 a0 m3))
def fxX8_state (N : Nat → Nat) (a0 : Nat) (a1 : Int32) (m0 : XM) : Option (String × XM) :=
    xcx (fxX8_needUnit N a0 a1 m0) <| xcv (fX8_needUnit N a0 a1 m0) fun m1 => xcv (fX8_runPlain N a0 m1) fun m2 => xgr m2 a0 5 fun u3 => xgr m2 u3 1 fun u4 => xald N m2 u4 a1 fun v5 => none
def fxX8_needSurprise_24 (N : Nat → Nat) (p0 : Nat) (m0 : XM) : Option (String × XM) :=
    xcx (fxX8_needElement N p0 0 m0) <| xcv (fX8_needElement N p0 0 m0) fun m1 => none
def fxX8_needSurprise (N : Nat → Nat) (a0 : Nat) (a1 : Int32) (m0 : XM) : Option (String × XM) :=
    xcv (fX8_runPlain N a0 m0) fun m1 => if (a1 : Int32) < 0 then (fxX8_needSurprise_24 N a0 m1) else (xgr m1 a0 5 fun u2 => xv (gi m1 u2 12) fun v3 => if v3 ≤ (a1 : Int32) then (fxX8_needSurprise_24 N a0 m1) else (xcx (fxX8_needElement N a0 1 m1) <| xcv (fX8_needElement N a0 1 m1) fun m4 => none))
def fxX8_surprise (N : Nat → Nat) (a0 : Nat) (a1 : Int32) (a2 : Int32) (m0 : XM) : Option (String × XM) :=
    xcx (fxX8_needSurprise N a0 a1 m0) <| xcv (fX8_needSurprise N a0 a1 m0) fun m1 => xcx (fxX8_needWhat N a0 a2 5 m1) <| xcv (fX8_needWhat N a0 a2 5 m1) fun m2 => xca (fX8_sightOf N a0 a1 m2) fun u4 m3 => xca (fX4_tell N u4 a2 m3) fun v6 m5 => none
def fxX8_trace_32 (N : Nat → Nat) (m0 : XM) : Option (String × XM) :=
    none
def fxX8_trace (N : Nat → Nat) (a0 : Nat) (a1 : Int32) (a2 : Int32) (m0 : XM) : Option (String × XM) :=
    xcx (fxX8_needSurprise N a0 a1 m0) <| xcv (fX8_needSurprise N a0 a1 m0) fun m1 => xca (fX8_sightOf N a0 a1 m1) fun u3 m2 => if (a2 : Int32) < 0 then (fxX8_trace_32 N m2) else (xv (gi m2 u3 1) fun v4 => if v4 ≤ (a2 : Int32) then (fxX8_trace_32 N m2) else (xgr m2 u3 2 fun u5 => xald N m2 u5 a2 fun v6 => none))
def fxX8_broken (N : Nat → Nat) (a0 : Nat) (a1 : Int32) (a2 : Int32) (m0 : XM) : Option (String × XM) :=
    xcx (fxX8_needUnit N a0 a1 m0) <| xcv (fX8_needUnit N a0 a1 m0) fun m1 => xcx (fxX8_needWhat N a0 a2 2 m1) <| xcv (fX8_needWhat N a0 a2 2 m1) fun m2 => xcv (fX8_runPlain N a0 m2) fun m3 => xgr m3 a0 5 fun u4 => xgr m3 u4 1 fun u5 => xald N m3 u5 a1 fun v6 => if (v6 : Int32) = 3 then (xgr m3 a0 5 fun u7 => xgr m3 u7 6 fun u8 => xrld N m3 u8 a2 fun u9 => xald N m3 u9 a1 fun v10 => none) else (none)
def fxX8_alike (N : Nat → Nat) (a0 : Nat) (a1 : Int32) (m0 : XM) : Option (String × XM) :=
    xca (fX8_takesOrder N a0 a1 m0) fun v2 m1 => xcx (fxX8_needArgument N a0 v2 m1) <| xcv (fX8_needArgument N a0 v2 m1) fun m3 => xcv (fX8_runPlain N a0 m3) fun m4 => xgr m4 a0 7 fun u5 => xgr m4 a0 3 fun u6 => xgr m4 a0 8 fun u7 => xcv (fX2_runAhead N u5 u6 u7 m4) fun m8 => xgr m8 a0 5 fun u9 => xv (gi m8 u9 15) fun v10 => if (v10 : Int32) = 0 then (xgr m8 a0 7 fun u11 => xv (gi m8 u11 15) fun v12 => if (v12 : Int32) = 0 then (xgr m8 a0 5 fun u13 => xgr m8 a0 7 fun u14 => xca (fX2_agreesWhereDone N u13 u14 m8) fun v16 m15 => if (v16 : Int32) = 0 then (none) else (none)) else (none)) else (none)
def fxX8_fewest (N : Nat → Nat) (a0 : Nat) (a1 : Int32) (m0 : XM) : Option (String × XM) :=
    xcx (fxX8_needWhat N a0 a1 2 m0) <| xcv (fX8_needWhat N a0 a1 2 m0) fun m1 => xgr m1 a0 9 fun u2 => xgr m1 a0 3 fun u3 => xcv (fX3_seekFewest N u2 u3 m1) fun m4 => if (a1 : Int32) = 0 then (xgr m4 a0 9 fun u6 => xv (gi m4 u6 1) fun v7 => none) else (if (a1 : Int32) = 1 then (xgr m4 a0 9 fun u9 => xv (gi m4 u9 2) fun v10 => none) else (xgr m4 a0 9 fun u11 => xv (gi m4 u11 3) fun v12 => none))
def fxX8_touches (N : Nat → Nat) (a0 : Nat) (a1 : Int32) (m0 : XM) : Option (String × XM) :=
    xcx (fxX8_needUnit N a0 a1 m0) <| xcv (fX8_needUnit N a0 a1 m0) fun m1 => xgr m1 a0 10 fun u2 => xgr m1 a0 3 fun u3 => xcv (fX7_spin N u2 u3 m1) fun m4 => xgr m4 a0 10 fun u5 => xgr m4 u5 0 fun u6 => xald N m4 u6 a1 fun v7 => none
def fxX8_reach (N : Nat → Nat) (a0 : Nat) (a1 : Int32) (m0 : XM) : Option (String × XM) :=
    xcx (fxX8_needUnit N a0 a1 m0) <| xcv (fX8_needUnit N a0 a1 m0) fun m1 => xgr m1 a0 10 fun u2 => xgr m1 a0 3 fun u3 => xcv (fX7_spin N u2 u3 m1) fun m4 => xgr m4 a0 10 fun u5 => xgr m4 u5 1 fun u6 => xald N m4 u6 a1 fun v7 => none
def fxX8_ring (N : Nat → Nat) (a0 : Nat) (a1 : Int32) (m0 : XM) : Option (String × XM) :=
    xcx (fxX8_needUnit N a0 a1 m0) <| xcv (fX8_needUnit N a0 a1 m0) fun m1 => xgr m1 a0 10 fun u2 => xgr m1 a0 3 fun u3 => xcv (fX7_spin N u2 u3 m1) fun m4 => xgr m4 a0 10 fun u5 => xca (fX7_ringOf N u5 a1 m4) fun v7 m6 => none
def fxX8_least (N : Nat → Nat) (a0 : Nat) (a1 : Int32) (m0 : XM) : Option (String × XM) :=
    xcx (fxX8_needWhat N a0 a1 1 m0) <| xcv (fX8_needWhat N a0 a1 1 m0) fun m1 => xgr m1 a0 10 fun u2 => xgr m1 a0 3 fun u3 => xcv (fX7_spin N u2 u3 m1) fun m4 => if (a1 : Int32) = 0 then (xgr m4 a0 10 fun u8 => xca (fX7_fewestBroken N u8 m4) fun v10 m9 => none) else (xgr m4 a0 10 fun u5 => xca (fX7_leastBreaking N u5 m4) fun v7 m6 => none)
def fxX8_breaks (N : Nat → Nat) (a0 : Nat) (a1 : Int32) (m0 : XM) : Option (String × XM) :=
    xca (fX8_takesOrder N a0 a1 m0) fun v2 m1 => xcx (fxX8_needArgument N a0 v2 m1) <| xcv (fX8_needArgument N a0 v2 m1) fun m3 => xgr m3 a0 10 fun u4 => xgr m3 a0 3 fun u5 => xcv (fX7_spin N u4 u5 m3) fun m6 => xgr m6 a0 10 fun u7 => xgr m6 a0 8 fun u8 => xca (fX7_countBroken N u7 u8 m6) fun v10 m9 => none
