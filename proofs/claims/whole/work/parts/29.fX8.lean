def fX8_putBytes_3 (N : Nat → Nat) : Nat → Nat → Int32 → Int32 → XM → Option XM
  | 0, _, _, _, _ => none
  | n + 1, q0, x1, x2, m0 => xv (fun q0 x1 x2 m0 => fX8_putBytes_3 N n q0 x1 x2 m0) fun r3 =>
    if (x2 : Int32) < 0 then (some m0) else (xv (gi m0 q0 1) fun v1 => if 600 ≤ (v1 : Int32) then (some m0) else (xgr m0 q0 0 fun u2 => xv (gi m0 q0 1) fun v3 => xv (((x1 : Int32).toUInt32 >>> ((x2 : Int32).toUInt32 &&& Int32.toUInt32 31)).toInt32) fun v4 => xv (v4 &&& 255 : Int32) fun v5 => xast N m0 u2 v3 v5 fun m6 => xv (gi m6 q0 1) fun v7 => xv (v7 + 1 : Int32) fun v8 => xv (si m6 q0 1 v8) fun m9 => xv (x2 + (-8)) fun v10 => r3 q0 x1 v10 m9))
def fX8_putBytes (N : Nat → Nat) (a0 : Nat) (a1 : Int32) (m0 : XM) : Option XM :=
    fX8_putBytes_3 N XF a0 a1 24 m0
def fX8_feed (N : Nat → Nat) (a0 : Nat) (a1 : Int32) (a2 : Int32) (a3 : Int32) (a4 : Int32) (a5 : Int32) (m0 : XM) : Option (Int32 × XM) :=
    xv (gi m0 a0 1) fun v1 => xv (v1 + 20 : Int32) fun v2 => if (v2 : Int32) ≤ 600 then (xcv (fX8_putBytes N a0 a1 m0) fun m3 => xcv (fX8_putBytes N a0 a2 m3) fun m4 => xcv (fX8_putBytes N a0 a3 m4) fun m5 => xcv (fX8_putBytes N a0 a4 m5) fun m6 => xcv (fX8_putBytes N a0 a5 m6) fun m7 => xv (gi m7 a0 1) fun v8 => some (v8, m7)) else (some ((-1), m0))
def fX8_needArgument (N : Nat → Nat) (a0 : Nat) (a1 : Int32) (m0 : XM) : Option XM :=
    if (a1 : Int32) = 0 then (xv (gi m0 a0 13) fun v1 => xv (v1 + 1 : Int32) fun v2 => xv (si m0 a0 13 v2) fun m3 => none) else (some m0)
def fX8_forgetRuns (N : Nat → Nat) (a0 : Nat) (m0 : XM) : Option XM :=
    xv (si m0 a0 6 0) fun m1 => xgr m1 a0 9 fun u2 => xv (si m1 u2 0 0) fun m3 => some m3
def fX8_text_18 (N : Nat → Nat) (q0 : Nat) (x1 : Int32) (p0 : Nat) (s1 : Int32) (m0 : XM) : Option (Int32 × XM) :=
    xcv (fX8_needArgument N p0 s1 m0) fun m1 => xgr m1 q0 2 fun u2 => xgr m1 q0 0 fun u3 => xca (fX1_readText N u2 u3 x1 m1) fun v5 m4 => xv (si m4 q0 1 0) fun m6 => if (v5 : Int32) = 0 then (xv (si m6 q0 11 (-1)) fun m7 => xgr m7 q0 2 fun u8 => xgr m7 q0 3 fun u9 => xca (fX1_handOver N u8 u9 m7) fun u11 m10 => xv (sr m10 q0 3 (some u11)) fun m12 => xgr m12 q0 4 fun u13 => xcv (fX0_forget N u13 m12) fun m14 => xcv (fX8_forgetRuns N q0 m14) fun m15 => xgr m15 q0 3 fun u16 => xv (gi m15 u16 0) fun v17 => some (v17, m15)) else (xgr m6 q0 2 fun u18 => xca (fX1_faultPlace N u18 m6) fun v20 m19 => xv (si m19 q0 11 v20) fun m21 => xv (v5 - 10 : Int32) fun v22 => some (v22, m21))
def fX8_text_17 (N : Nat → Nat) (q0 : Nat) (x1 : Int32) (p0 : Nat) (m0 : XM) : Option (Int32 × XM) :=
    fX8_text_18 N q0 x1 p0 0 m0
def fX8_text (N : Nat → Nat) (a0 : Nat) (a1 : Int32) (m0 : XM) : Option (Int32 × XM) :=
    if (a1 : Int32) < 0 then (fX8_text_17 N a0 a1 a0 m0) else (xv (gi m0 a0 1) fun v1 => if v1 < (a1 : Int32) then (fX8_text_17 N a0 a1 a0 m0) else (fX8_text_18 N a0 a1 a0 1 m0))
def fX8_fault (N : Nat → Nat) (a0 : Nat) (m0 : XM) : Option (Int32 × XM) :=
    xv (gi m0 a0 11) fun v1 => some (v1, m0)
def fX8_needElement (N : Nat → Nat) (a0 : Nat) (a1 : Int32) (m0 : XM) : Option XM :=
    if (a1 : Int32) = 0 then (xv (gi m0 a0 12) fun v1 => xv (v1 + 1 : Int32) fun v2 => xv (si m0 a0 12 v2) fun m3 => none) else (some m0)
def fX8_needUnit_20 (N : Nat → Nat) (p0 : Nat) (m0 : XM) : Option XM :=
    xcv (fX8_needElement N p0 0 m0) fun m1 => some m1
def fX8_needUnit (N : Nat → Nat) (a0 : Nat) (a1 : Int32) (m0 : XM) : Option XM :=
    if (a1 : Int32) < 0 then (fX8_needUnit_20 N a0 m0) else (xgr m0 a0 3 fun u1 => xv (gi m0 u1 0) fun v2 => if v2 ≤ (a1 : Int32) then (fX8_needUnit_20 N a0 m0) else (xcv (fX8_needElement N a0 1 m0) fun m3 => some m3))
def fX8_needMember_27 (N : Nat → Nat) (p0 : Nat) (m0 : XM) : Option XM :=
    xcv (fX8_needElement N p0 0 m0) fun m1 => some m1
def fX8_needMember (N : Nat → Nat) (a0 : Nat) (a1 : Int32) (a2 : Int32) (m0 : XM) : Option XM :=
    xcv (fX8_needUnit N a0 a1 m0) fun m1 => if (a2 : Int32) < 0 then (fX8_needMember_27 N a0 m1) else (xgr m1 a0 3 fun u2 => xgr m1 u2 3 fun u3 => xald N m1 u3 a1 fun v4 => if v4 ≤ (a2 : Int32) then (fX8_needMember_27 N a0 m1) else (xcv (fX8_needElement N a0 1 m1) fun m5 => some m5))
def fX8_move (N : Nat → Nat) (a0 : Nat) (a1 : Int32) (a2 : Int32) (a3 : Int32) (m0 : XM) : Option (Int32 × XM) :=
    xcv (fX8_needMember N a0 a1 a2 m0) fun m1 => xcv (fX8_needMember N a0 a1 a3 m1) fun m2 => if (a2 : Int32) = a3 then (some (0, m2)) else (xgr m2 a0 3 fun u3 => xcv (fX6_shift N u3 a1 a2 a3 m2) fun m4 => xgr m4 a0 4 fun u5 => xcv (fX0_note N u5 a1 a2 a3 m4) fun m6 => xcv (fX8_forgetRuns N a0 m6) fun m7 => some (1, m7))
def fX8_turn (N : Nat → Nat) (a0 : Nat) (a1 : Int32) (a2 : Int32) (m0 : XM) : Option (Int32 × XM) :=
    xcv (fX8_needMember N a0 a1 a2 m0) fun m1 => xgr m1 a0 3 fun u2 => xcv (fX6_flip N u2 a1 a2 m1) fun m3 => xgr m3 a0 4 fun u4 => xcv (fX0_note N u4 a1 a2 (-1) m3) fun m5 => xcv (fX8_forgetRuns N a0 m5) fun m6 => xgr m6 a0 3 fun u7 => xgr m6 u7 8 fun u8 => xgr m6 a0 3 fun u9 => xca (fX6_memberAt N u9 a1 a2 m6) fun v11 m10 => xald N m10 u8 v11 fun v12 => some (v12, m10)
def fX8_undo (N : Nat → Nat) (a0 : Nat) (m0 : XM) : Option (Int32 × XM) :=
    xgr m0 a0 4 fun u1 => xgr m0 a0 3 fun u2 => xca (fX0_takeBack N u1 u2 m0) fun v4 m3 => if (v4 : Int32) = 0 then (some ((-1), m3)) else (xcv (fX8_forgetRuns N a0 m3) fun m5 => xgr m5 a0 4 fun u6 => xv (gi m5 u6 0) fun v7 => some (v7, m5))
def fX8_needWhat_14 (N : Nat → Nat) (p0 : Nat) (m0 : XM) : Option XM :=
    xcv (fX8_needArgument N p0 0 m0) fun m1 => some m1
def fX8_needWhat (N : Nat → Nat) (a0 : Nat) (a1 : Int32) (a2 : Int32) (m0 : XM) : Option XM :=
    if (a1 : Int32) < 0 then (fX8_needWhat_14 N a0 m0) else (if a2 < (a1 : Int32) then (fX8_needWhat_14 N a0 m0) else (xcv (fX8_needArgument N a0 1 m0) fun m1 => some m1))
def fX8_told (N : Nat → Nat) (a0 : Nat) (a1 : Int32) (m0 : XM) : Option (Int32 × XM) :=
    xcv (fX8_needWhat N a0 a1 5 m0) fun m1 => if (a1 : Int32) = 0 then (xgr m1 a0 3 fun u3 => xv (gi m1 u3 0) fun v4 => some (v4, m1)) else (if (a1 : Int32) = 1 then (xgr m1 a0 3 fun u6 => xv (gi m1 u6 11) fun v7 => some (v7, m1)) else (if (a1 : Int32) = 2 then (xgr m1 a0 3 fun u9 => xca (fX6_countMembers N u9 0 m1) fun v11 m10 => some (v11, m10)) else (if (a1 : Int32) = 3 then (xgr m1 a0 3 fun u13 => xca (fX6_countMembers N u13 1 m1) fun v15 m14 => some (v15, m14)) else (if (a1 : Int32) = 4 then (xv (gi m1 a0 1) fun v17 => some (v17, m1)) else (xgr m1 a0 4 fun u18 => xv (gi m1 u18 0) fun v19 => some (v19, m1))))))
def fX8_unit (N : Nat → Nat) (a0 : Nat) (a1 : Int32) (a2 : Int32) (m0 : XM) : Option (Int32 × XM) :=
    xcv (fX8_needUnit N a0 a1 m0) fun m1 => xcv (fX8_needWhat N a0 a2 4 m1) fun m2 => if (a2 : Int32) = 0 then (xgr m2 a0 3 fun u4 => xgr m2 u4 1 fun u5 => xald N m2 u5 a1 fun v6 => some (v6, m2)) else (if (a2 : Int32) = 1 then (xgr m2 a0 3 fun u8 => xgr m2 u8 2 fun u9 => xald N m2 u9 a1 fun v10 => some (v10, m2)) else (if (a2 : Int32) = 2 then (xgr m2 a0 3 fun u12 => xgr m2 u12 3 fun u13 => xald N m2 u13 a1 fun v14 => some (v14, m2)) else (if (a2 : Int32) = 3 then (xgr m2 a0 3 fun u16 => xca (fX6_countKind N u16 a1 1 m2) fun v18 m17 => some (v18, m17)) else (xgr m2 a0 3 fun u19 => xca (fX6_countKind N u19 a1 4 m2) fun v21 m20 => some (v21, m20)))))
def fX8_member (N : Nat → Nat) (a0 : Nat) (a1 : Int32) (a2 : Int32) (a3 : Int32) (m0 : XM) : Option (Int32 × XM) :=
    xcv (fX8_needMember N a0 a1 a2 m0) fun m1 => xcv (fX8_needWhat N a0 a3 4 m1) fun m2 => xgr m2 a0 3 fun u3 => xca (fX6_memberAt N u3 a1 a2 m2) fun v5 m4 => if (a3 : Int32) = 0 then (xgr m4 a0 3 fun u7 => xgr m4 u7 4 fun u8 => xald N m4 u8 v5 fun v9 => some (v9, m4)) else (if (a3 : Int32) = 1 then (xgr m4 a0 3 fun u11 => xgr m4 u11 8 fun u12 => xald N m4 u12 v5 fun v13 => some (v13, m4)) else (if (a3 : Int32) = 2 then (xgr m4 a0 3 fun u15 => xca (fX6_nameOf N u15 v5 m4) fun v17 m16 => some (v17, m16)) else (if (a3 : Int32) = 3 then (xgr m4 a0 3 fun u19 => xca (fX6_termsOf N u19 v5 m4) fun v21 m20 => some (v21, m20)) else (xgr m4 a0 3 fun u22 => xca (fX6_detailOf N u22 v5 m4) fun v24 m23 => some (v24, m23)))))
def fX8_runPlain (N : Nat → Nat) (a0 : Nat) (m0 : XM) : Option XM :=
    xv (gi m0 a0 6) fun v1 => if (v1 : Int32) = 0 then (xgr m0 a0 5 fun u2 => xgr m0 a0 3 fun u3 => xcv (fX2_runPlainly N u2 u3 m0) fun m4 => xv (si m4 a0 6 1) fun m5 => some m5) else (some m0)
def fX8_lazy (N : Nat → Nat) (a0 : Nat) (a1 : Int32) (m0 : XM) : Option (Int32 × XM) :=
    xcv (fX8_needWhat N a0 a1 7 m0) fun m1 => xcv (fX8_runPlain N a0 m1) fun m2 => xgr m2 a0 5 fun u3 => xca (fX2_tally N u3 a1 m2) fun v5 m4 => some (v5, m4)
def fX8_takesOrder_21 (N : Nat → Nat) : Nat → Nat → Int32 → Int32 → Int32 → XM → Option (Int32 × XM)
  | 0, _, _, _, _, _ => none
  | n + 1, q0, x2, x3, x4, m0 => xv (fun q0 x2 x3 x4 m0 => fX8_takesOrder_21 N n q0 x2 x3 x4 m0) fun r21 =>
    if (x4 : Int32) < 0 then (if (x2 : Int32) = 0 then (some (1, m0)) else (some (0, m0))) else (xdv 10 <| xv (xrem x2 10) fun v1 => xdv 10 <| xv (x2 / 10 : Int32) fun v2 => xgr m0 q0 3 fun u3 => xv (gi m0 u3 0) fun v4 => if v4 ≤ (v1 : Int32) then (some (0, m0)) else (xv (x3 >>> (v1 &&& 31) : Int32) fun v5 => xv (v5 &&& 1 : Int32) fun v6 => if (v6 : Int32) = 0 then (xv (1 <<< (v1 &&& 31) : Int32) fun v7 => xv (x3 ||| v7 : Int32) fun v8 => xgr m0 q0 8 fun u9 => xast N m0 u9 x4 v1 fun m10 => xv (x4 + (-1)) fun v11 => r21 q0 v2 v8 v11 m10) else (some (0, m0))))
def fX8_takesOrder (N : Nat → Nat) (a0 : Nat) (a1 : Int32) (m0 : XM) : Option (Int32 × XM) :=
    if 0 ≤ (a1 : Int32) then (xgr m0 a0 3 fun u1 => xv (gi m0 u1 0) fun v2 => xv (v2 - 1 : Int32) fun v3 => fX8_takesOrder_21 N XF a0 a1 0 v3 m0) else (some (0, m0))
def fX8_eager (N : Nat → Nat) (a0 : Nat) (a1 : Int32) (a2 : Int32) (m0 : XM) : Option (Int32 × XM) :=
    xca (fX8_takesOrder N a0 a1 m0) fun v2 m1 => xcv (fX8_needArgument N a0 v2 m1) fun m3 => xcv (fX8_needWhat N a0 a2 7 m3) fun m4 => xgr m4 a0 7 fun u5 => xgr m4 a0 3 fun u6 => xgr m4 a0 8 fun u7 => xcv (fX2_runAhead N u5 u6 u7 m4) fun m8 => xgr m8 a0 7 fun u9 => xca (fX2_tally N u9 a2 m8) fun v11 m10 => some (v11, m10)
def fX8_value_39 (N : Nat → Nat) (q0 : Nat) (x3 : Int32) (p0 : Nat) (s1 : Int32) (m0 : XM) : Option (Int32 × XM) :=
    xcv (fX8_needElement N p0 s1 m0) fun m1 => xcv (fX8_runPlain N q0 m1) fun m2 => xgr m2 q0 5 fun u3 => xgr m2 u3 2 fun u4 => xald N m2 u4 x3 fun v5 => some (v5, m2)
def fX8_value_38 (N : Nat → Nat) (q0 : Nat) (x3 : Int32) (p0 : Nat) (m0 : XM) : Option (Int32 × XM) :=
    fX8_value_39 N q0 x3 p0 0 m0
def fX8_value (N : Nat → Nat) (a0 : Nat) (a1 : Int32) (a2 : Int32) (m0 : XM) : Option (Int32 × XM) :=
    xcv (fX8_needUnit N a0 a1 m0) fun m1 => xgr m1 a0 3 fun u2 => xca (fX6_memberNamed N u2 a1 a2 m1) fun v4 m3 => if (v4 : Int32) = (-1) then (fX8_value_38 N a0 v4 a0 m3) else (xgr m3 a0 3 fun u5 => xgr m3 u5 4 fun u6 => xald N m3 u6 v4 fun v7 => if (v7 : Int32) = 1 then (fX8_value_39 N a0 v4 a0 1 m3) else (fX8_value_38 N a0 v4 a0 m3))
def fX8_state (N : Nat → Nat) (a0 : Nat) (a1 : Int32) (m0 : XM) : Option (Int32 × XM) :=
    xcv (fX8_needUnit N a0 a1 m0) fun m1 => xcv (fX8_runPlain N a0 m1) fun m2 => xgr m2 a0 5 fun u3 => xgr m2 u3 1 fun u4 => xald N m2 u4 a1 fun v5 => some (v5, m2)
def fX8_begun_31 (N : Nat → Nat) (m0 : XM) : Option (Int32 × XM) :=
    some ((-1), m0)
def fX8_begun (N : Nat → Nat) (a0 : Nat) (a1 : Int32) (m0 : XM) : Option (Int32 × XM) :=
    xcv (fX8_runPlain N a0 m0) fun m1 => if (a1 : Int32) < 0 then (fX8_begun_31 N m1) else (xgr m1 a0 5 fun u2 => xv (gi m1 u2 4) fun v3 => if v3 ≤ (a1 : Int32) then (fX8_begun_31 N m1) else (xgr m1 a0 5 fun u4 => xgr m1 u4 5 fun u5 => xald N m1 u5 a1 fun v6 => some (v6, m1)))
def fX8_needSurprise_24 (N : Nat → Nat) (p0 : Nat) (m0 : XM) : Option XM :=
    xcv (fX8_needElement N p0 0 m0) fun m1 => some m1
def fX8_needSurprise (N : Nat → Nat) (a0 : Nat) (a1 : Int32) (m0 : XM) : Option XM :=
    xcv (fX8_runPlain N a0 m0) fun m1 => if (a1 : Int32) < 0 then (fX8_needSurprise_24 N a0 m1) else (xgr m1 a0 5 fun u2 => xv (gi m1 u2 12) fun v3 => if v3 ≤ (a1 : Int32) then (fX8_needSurprise_24 N a0 m1) else (xcv (fX8_needElement N a0 1 m1) fun m4 => some m4))
def fX8_sightOf_36 (N : Nat → Nat) (q0 : Nat) (m0 : XM) : Option (Nat × XM) :=
    xgr m0 q0 5 fun u1 => xgr m0 u1 17 fun u2 => some (u2, m0)
def fX8_sightOf (N : Nat → Nat) (a0 : Nat) (a1 : Int32) (m0 : XM) : Option (Nat × XM) :=
    xgr m0 a0 5 fun u1 => xgr m0 u1 17 fun u2 => xv (gi m0 u2 0) fun v3 => if (v3 : Int32) = a1 then (fX8_sightOf_36 N a0 m0) else (xgr m0 a0 5 fun u4 => xgr m0 u4 17 fun u5 => xv (si m0 u5 0 a1) fun m6 => xgr m6 a0 5 fun u7 => xgr m6 a0 3 fun u8 => xcv (fX2_runPlainly N u7 u8 m6) fun m9 => fX8_sightOf_36 N a0 m9)
def fX8_surprise (N : Nat → Nat) (a0 : Nat) (a1 : Int32) (a2 : Int32) (m0 : XM) : Option (Int32 × XM) :=
    xcv (fX8_needSurprise N a0 a1 m0) fun m1 => xcv (fX8_needWhat N a0 a2 5 m1) fun m2 => xca (fX8_sightOf N a0 a1 m2) fun u4 m3 => xca (fX4_tell N u4 a2 m3) fun v6 m5 => some (v6, m5)
def fX8_trace_32 (N : Nat → Nat) (m0 : XM) : Option (Int32 × XM) :=
    some ((-1), m0)
def fX8_trace (N : Nat → Nat) (a0 : Nat) (a1 : Int32) (a2 : Int32) (m0 : XM) : Option (Int32 × XM) :=
    xcv (fX8_needSurprise N a0 a1 m0) fun m1 => xca (fX8_sightOf N a0 a1 m1) fun u3 m2 => if (a2 : Int32) < 0 then (fX8_trace_32 N m2) else (xv (gi m2 u3 1) fun v4 => if v4 ≤ (a2 : Int32) then (fX8_trace_32 N m2) else (xgr m2 u3 2 fun u5 => xald N m2 u5 a2 fun v6 => some (v6, m2)))
def fX8_broken (N : Nat → Nat) (a0 : Nat) (a1 : Int32) (a2 : Int32) (m0 : XM) : Option (Int32 × XM) :=
    xcv (fX8_needUnit N a0 a1 m0) fun m1 => xcv (fX8_needWhat N a0 a2 2 m1) fun m2 => xcv (fX8_runPlain N a0 m2) fun m3 => xgr m3 a0 5 fun u4 => xgr m3 u4 1 fun u5 => xald N m3 u5 a1 fun v6 => if (v6 : Int32) = 3 then (xgr m3 a0 5 fun u7 => xgr m3 u7 6 fun u8 => xrld N m3 u8 a2 fun u9 => xald N m3 u9 a1 fun v10 => some (v10, m3)) else (some ((-1), m3))
def fX8_alike (N : Nat → Nat) (a0 : Nat) (a1 : Int32) (m0 : XM) : Option (Int32 × XM) :=
    xca (fX8_takesOrder N a0 a1 m0) fun v2 m1 => xcv (fX8_needArgument N a0 v2 m1) fun m3 => xcv (fX8_runPlain N a0 m3) fun m4 => xgr m4 a0 7 fun u5 => xgr m4 a0 3 fun u6 => xgr m4 a0 8 fun u7 => xcv (fX2_runAhead N u5 u6 u7 m4) fun m8 => xgr m8 a0 5 fun u9 => xv (gi m8 u9 15) fun v10 => if (v10 : Int32) = 0 then (xgr m8 a0 7 fun u11 => xv (gi m8 u11 15) fun v12 => if (v12 : Int32) = 0 then (xgr m8 a0 5 fun u13 => xgr m8 a0 7 fun u14 => xca (fX2_agreesWhereDone N u13 u14 m8) fun v16 m15 => if (v16 : Int32) = 0 then (some (0, m15)) else (some (1, m15))) else (some ((-2), m8))) else (some ((-2), m8))
def fX8_fewest (N : Nat → Nat) (a0 : Nat) (a1 : Int32) (m0 : XM) : Option (Int32 × XM) :=
    xcv (fX8_needWhat N a0 a1 2 m0) fun m1 => xgr m1 a0 9 fun u2 => xgr m1 a0 3 fun u3 => xcv (fX3_seekFewest N u2 u3 m1) fun m4 => if (a1 : Int32) = 0 then (xgr m4 a0 9 fun u6 => xv (gi m4 u6 1) fun v7 => some (v7, m4)) else (if (a1 : Int32) = 1 then (xgr m4 a0 9 fun u9 => xv (gi m4 u9 2) fun v10 => some (v10, m4)) else (xgr m4 a0 9 fun u11 => xv (gi m4 u11 3) fun v12 => some (v12, m4)))
def fX8_touches (N : Nat → Nat) (a0 : Nat) (a1 : Int32) (m0 : XM) : Option (Int32 × XM) :=
    xcv (fX8_needUnit N a0 a1 m0) fun m1 => xgr m1 a0 10 fun u2 => xgr m1 a0 3 fun u3 => xcv (fX7_spin N u2 u3 m1) fun m4 => xgr m4 a0 10 fun u5 => xgr m4 u5 0 fun u6 => xald N m4 u6 a1 fun v7 => some (v7, m4)
def fX8_reach (N : Nat → Nat) (a0 : Nat) (a1 : Int32) (m0 : XM) : Option (Int32 × XM) :=
    xcv (fX8_needUnit N a0 a1 m0) fun m1 => xgr m1 a0 10 fun u2 => xgr m1 a0 3 fun u3 => xcv (fX7_spin N u2 u3 m1) fun m4 => xgr m4 a0 10 fun u5 => xgr m4 u5 1 fun u6 => xald N m4 u6 a1 fun v7 => some (v7, m4)
def fX8_ring (N : Nat → Nat) (a0 : Nat) (a1 : Int32) (m0 : XM) : Option (Int32 × XM) :=
    xcv (fX8_needUnit N a0 a1 m0) fun m1 => xgr m1 a0 10 fun u2 => xgr m1 a0 3 fun u3 => xcv (fX7_spin N u2 u3 m1) fun m4 => xgr m4 a0 10 fun u5 => xca (fX7_ringOf N u5 a1 m4) fun v7 m6 => some (v7, m6)
def fX8_least (N : Nat → Nat) (a0 : Nat) (a1 : Int32) (m0 : XM) : Option (Int32 × XM) :=
    xcv (fX8_needWhat N a0 a1 1 m0) fun m1 => xgr m1 a0 10 fun u2 => xgr m1 a0 3 fun u3 => xcv (fX7_spin N u2 u3 m1) fun m4 => if (a1 : Int32) = 0 then (xgr m4 a0 10 fun u8 => xca (fX7_fewestBroken N u8 m4) fun v10 m9 => some (v10, m9)) else (xgr m4 a0 10 fun u5 => xca (fX7_leastBreaking N u5 m4) fun v7 m6 => some (v7, m6))
def fX8_breaks (N : Nat → Nat) (a0 : Nat) (a1 : Int32) (m0 : XM) : Option (Int32 × XM) :=
    xca (fX8_takesOrder N a0 a1 m0) fun v2 m1 => xcv (fX8_needArgument N a0 v2 m1) fun m3 => xgr m3 a0 10 fun u4 => xgr m3 a0 3 fun u5 => xcv (fX7_spin N u4 u5 m3) fun m6 => xgr m6 a0 10 fun u7 => xgr m6 a0 8 fun u8 => xca (fX7_countBroken N u7 u8 m6) fun v10 m9 => some (v10, m9)
def fX8_print_97 (N : Nat → Nat) (r8 : Nat → Int64 → Int32 → XM → Option (Int64 × XM)) (r39 : Nat → Int64 → Int32 → Int32 → XM → Option (Int64 × XM)) (q0 : Nat) (x1 : Int64) (x3 : Int32) (x4 : Int32) (m0 : XM) : Option (Int64 × XM) :=
    xv (x4 + 1) fun v1 => r39 q0 x1 x3 v1 m0
def fX8_print_39 (N : Nat → Nat) (r8 : Nat → Int64 → Int32 → XM → Option (Int64 × XM)) : Nat → Nat → Int64 → Int32 → Int32 → XM → Option (Int64 × XM)
  | 0, _, _, _, _, _ => none
  | n + 1, q0, x1, x3, x4, m0 => xv (fun q0 x1 x3 x4 m0 => fX8_print_39 N r8 n q0 x1 x3 x4 m0) fun r39 =>
    xgr m0 q0 3 fun u1 => xgr m0 u1 3 fun u2 => xald N m0 u2 x3 fun v3 => if v3 ≤ (x4 : Int32) then (xv (x3 + 1) fun v4 => r8 q0 x1 v4 m0) else (xgr m0 q0 3 fun u5 => xca (fX6_memberAt N u5 x3 x4 m0) fun v7 m6 => xgr m6 q0 3 fun u8 => xgr m6 u8 4 fun u9 => xald N m6 u9 v7 fun v10 => if (v10 : Int32) = 1 then (xv (x1 * 31 : Int64) fun w11 => xgr m6 q0 5 fun u12 => xgr m6 u12 2 fun u13 => xald N m6 u13 v7 fun v14 => xv ((v14 : Int32).toInt64) fun w15 => xv (w11 + w15 : Int64) fun w16 => fX8_print_97 N r8 r39 q0 w16 x3 x4 m6) else (fX8_print_97 N r8 r39 q0 x1 x3 x4 m6))
def fX8_print_8 (N : Nat → Nat) : Nat → Nat → Int64 → Int32 → XM → Option (Int64 × XM)
  | 0, _, _, _, _ => none
  | n + 1, q0, x1, x3, m0 => xv (fun q0 x1 x3 m0 => fX8_print_8 N n q0 x1 x3 m0) fun r8 =>
    xgr m0 q0 3 fun u1 => xv (gi m0 u1 0) fun v2 => if v2 ≤ (x3 : Int32) then (some (x1, m0)) else (xv (x1 * 31 : Int64) fun w3 => xgr m0 q0 5 fun u4 => xgr m0 u4 1 fun u5 => xald N m0 u5 x3 fun v6 => xv ((v6 : Int32).toInt64) fun w7 => xv (w3 + w7 : Int64) fun w8 => fX8_print_39 N r8 XF q0 w8 x3 0 m0)
def fX8_print (N : Nat → Nat) (a0 : Nat) (m0 : XM) : Option (Int64 × XM) :=
    xcv (fX8_runPlain N a0 m0) fun m1 => fX8_print_8 N XF a0 0 0 m1
def fX8_status (N : Nat → Nat) (a0 : Nat) (a1 : Int32) (m0 : XM) : Option (Int32 × XM) :=
    if (a1 : Int32) = 0 then (xv (gi m0 a0 12) fun v2 => some (v2, m0)) else (if (a1 : Int32) = 1 then (xv (gi m0 a0 13) fun v1 => some (v1, m0)) else (some ((-1), m0)))
