def fX2_reset (N : Nat → Nat) (a0 : Nat) (a1 : Nat) (m0 : XM) : Option XM :=
    xv (sr m0 a0 0 (some a1)) fun m1 => xgr m1 a0 1 fun u2 => xcv (fJ7_fill_53178 N u2 0 m1) fun m3 => xgr m3 a0 2 fun u4 => xcv (fJ7_fill_53178 N u4 0 m3) fun m5 => xv (si m5 a0 4 0) fun m6 => xv (si m6 a0 7 0) fun m7 => xv (si m7 a0 11 0) fun m8 => xv (si m8 a0 12 0) fun m9 => xv (si m9 a0 13 0) fun m10 => xv (si m10 a0 14 0) fun m11 => xv (si m11 a0 15 0) fun m12 => some m12
def fX2_join (N : Nat → Nat) (a0 : Nat) (a1 : Int32) (a2 : Int32) (a3 : Int32) (m0 : XM) : Option (Int32 × XM) :=
    if (a1 : Int32) = 4 then (xv (a2 + a3 : Int32) fun v2 => some (v2, m0)) else (if (a1 : Int32) = 5 then (xv (a2 - a3 : Int32) fun v4 => some (v4, m0)) else (xv (a2 * a3 : Int32) fun v5 => some (v5, m0)))
def fX2_spend (N : Nat → Nat) (a0 : Nat) (m0 : XM) : Option (Int32 × XM) :=
    xv (gi m0 a0 11) fun v1 => if (v1 : Int32) < 3000 then (xv (gi m0 a0 11) fun v2 => xv (v2 + 1 : Int32) fun v3 => xv (si m0 a0 11 v3) fun m4 => some (1, m4)) else (xv (si m0 a0 15 1) fun m5 => some (0, m5))
def fX2_openUp (N : Nat → Nat) (a0 : Nat) (a1 : Int32) (m0 : XM) : Option (Int32 × XM) :=
    xv (gi m0 a0 7) fun v1 => if (v1 : Int32) < 20 then (xgr m0 a0 8 fun u2 => xv (gi m0 a0 7) fun v3 => xast N m0 u2 v3 a1 fun m4 => xv (gi m4 a0 7) fun v5 => xv (v5 + 1 : Int32) fun v6 => xv (si m4 a0 7 v6) fun m7 => some (1, m7)) else (xv (si m0 a0 15 1) fun m8 => some (0, m8))
def fX2_noteBegun_41 (N : Nat → Nat) : Nat → Nat → Int32 → Int32 → XM → Option XM
  | 0, _, _, _, _ => none
  | n + 1, q0, x1, x2, m0 => xv (fun q0 x1 x2 m0 => fX2_noteBegun_41 N n q0 x1 x2 m0) fun r41 =>
    xv (x1 * 12 : Int32) fun v1 => xgr m0 q0 0 fun u2 => xgr m0 u2 3 fun u3 => xald N m0 u3 x1 fun v4 => xv (v1 + v4 : Int32) fun v5 => if v5 ≤ (x2 : Int32) then (some m0) else (xgr m0 q0 3 fun u6 => xast N m0 u6 x2 0 fun m7 => xv (x2 + 1) fun v8 => r41 q0 x1 v8 m7)
def fX2_noteBegun_36 (N : Nat → Nat) (q0 : Nat) (x1 : Int32) (m0 : XM) : Option XM :=
    xv (x1 * 12 : Int32) fun v1 => fX2_noteBegun_41 N XF q0 x1 v1 m0
def fX2_noteBegun (N : Nat → Nat) (a0 : Nat) (a1 : Int32) (m0 : XM) : Option XM :=
    xgr m0 a0 1 fun u1 => xast N m0 u1 a1 1 fun m2 => xv (gi m2 a0 4) fun v3 => if 7 ≤ (v3 : Int32) then (fX2_noteBegun_36 N a0 a1 m2) else (xgr m2 a0 5 fun u4 => xv (gi m2 a0 4) fun v5 => xast N m2 u4 v5 a1 fun m6 => xv (gi m6 a0 4) fun v7 => xv (v7 + 1 : Int32) fun v8 => xv (si m6 a0 4 v8) fun m9 => fX2_noteBegun_36 N a0 a1 m9)
def fX2_failAll_83 (N : Nat → Nat) (r10 : Nat → Int32 → Int32 → Int32 → Int32 → XM → Option (Int32 × XM)) (q0 : Nat) (x1 : Int32) (x2 : Int32) (x3 : Int32) (x4 : Int32) (m0 : XM) : Option (Int32 × XM) :=
    xv (x4 + (-1)) fun v1 => r10 q0 x1 x2 x3 v1 m0
def fX2_failAll_10 (N : Nat → Nat) : Nat → Nat → Int32 → Int32 → Int32 → Int32 → XM → Option (Int32 × XM)
  | 0, _, _, _, _, _, _ => none
  | n + 1, q0, x1, x2, x3, x4, m0 => xv (fun q0 x1 x2 x3 x4 m0 => fX2_failAll_10 N n q0 x1 x2 x3 x4 m0) fun r10 =>
    if (x4 : Int32) < 0 then (xv (si m0 q0 7 0) fun m1 => some (0, m1)) else (xgr m0 q0 8 fun u2 => xald N m0 u2 x4 fun v3 => xdv 100 <| xv (xrem v3 100) fun v4 => if (v4 : Int32) = 99 then (xgr m0 q0 8 fun u5 => xald N m0 u5 x4 fun v6 => xdv 100 <| xv (v6 / 100 : Int32) fun v7 => xgr m0 q0 1 fun u8 => xast N m0 u8 v7 3 fun m9 => xgr m9 q0 6 fun u10 => xrld N m9 u10 0 fun u11 => xast N m9 u11 v7 x1 fun m12 => xgr m12 q0 6 fun u13 => xrld N m12 u13 1 fun u14 => xast N m12 u14 v7 x2 fun m15 => xgr m15 q0 6 fun u16 => xrld N m15 u16 2 fun u17 => xast N m15 u17 v7 x3 fun m18 => xv (x3 + 1) fun v19 => fX2_failAll_83 N r10 q0 x1 x2 v19 x4 m18) else (fX2_failAll_83 N r10 q0 x1 x2 x3 x4 m0))
def fX2_failAll (N : Nat → Nat) (a0 : Nat) (a1 : Int32) (a2 : Int32) (m0 : XM) : Option (Int32 × XM) :=
    xv (gi m0 a0 7) fun v1 => xv (v1 - 1 : Int32) fun v2 => fX2_failAll_10 N XF a0 a1 a2 0 v2 m0
def fX2_isEarly_39 (N : Nat → Nat) (m0 : XM) : Option (Int32 × XM) :=
    some (0, m0)
def fX2_isEarly (N : Nat → Nat) (a0 : Nat) (a1 : Int32) (m0 : XM) : Option (Int32 × XM) :=
    xgr m0 a0 1 fun u1 => xdv 12 <| xv (a1 / 12 : Int32) fun v2 => xald N m0 u1 v2 fun v3 => if (v3 : Int32) = 1 then (xgr m0 a0 0 fun u4 => xgr m0 u4 7 fun u5 => xald N m0 u5 a1 fun v6 => if (v6 : Int32) = (-1) then (fX2_isEarly_39 N m0) else (xgr m0 a0 3 fun u7 => xald N m0 u7 a1 fun v8 => if (v8 : Int32) = 0 then (some (1, m0)) else (fX2_isEarly_39 N m0))) else (fX2_isEarly_39 N m0)
def fX2_readVariable_41 (N : Nat → Nat) (q0 : Nat) (x1 : Int32) (m0 : XM) : Option (Int32 × XM) :=
    xgr m0 q0 2 fun u1 => xald N m0 u1 x1 fun v2 => xv (si m0 q0 10 v2) fun m3 => some (1, m3)
def fX2_readVariable_31 (N : Nat → Nat) (q0 : Nat) (x1 : Int32) (m0 : XM) : Option (Int32 × XM) :=
    xv (gi m0 q0 12) fun v1 => xv (v1 + 1 : Int32) fun v2 => xv (si m0 q0 12 v2) fun m3 => fX2_readVariable_41 N q0 x1 m3
def fX2_readVariable (N : Nat → Nat) (a0 : Nat) (a1 : Int32) (m0 : XM) : Option (Int32 × XM) :=
    xca (fX2_isEarly N a0 a1 m0) fun v2 m1 => if (v2 : Int32) = 0 then (fX2_readVariable_41 N a0 a1 m1) else (xv (gi m1 a0 12) fun v3 => xgr m1 a0 17 fun u4 => xv (gi m1 u4 0) fun v5 => if (v3 : Int32) = v5 then (xgr m1 a0 17 fun u6 => xcv (fX4_keep N u6 a0 a1 m1) fun m7 => fX2_readVariable_31 N a0 a1 m7) else (fX2_readVariable_31 N a0 a1 m1))
def fX2_touchUnit_34 (N : Nat → Nat) (R : Nat → Nat → Int32 → Int32 → XM → Option (Int32 × XM)) (m0 : XM) : Option (Int32 × XM) :=
    some (1, m0)
def fX2_touchUnit (N : Nat → Nat) (R : Nat → Nat → Int32 → Int32 → XM → Option (Int32 × XM)) (a0 : Nat) (a1 : Int32) (m0 : XM) : Option (Int32 × XM) :=
    xgr m0 a0 1 fun u1 => xald N m0 u1 a1 fun v2 => if (v2 : Int32) = 0 then (xca (R 1 a0 a1 0 m0) fun v8 m7 => xnb v8 (some (v8, m7))) else (xgr m0 a0 1 fun u3 => xald N m0 u3 a1 fun v4 => if (v4 : Int32) = 3 then (xca (fX2_failAll N a0 2 a1 m0) fun v6 m5 => if (v6 : Int32) = 0 then (some (0, m5)) else (fX2_touchUnit_34 N R m5)) else (fX2_touchUnit_34 N R m0))
def fX2_beginUnit_24 (N : Nat → Nat) (R : Nat → Nat → Int32 → Int32 → XM → Option (Int32 × XM)) (q0 : Nat) (m0 : XM) : Option (Int32 × XM) :=
    xv (si m0 q0 15 1) fun m1 => some (0, m1)
def fX2_beginUnit_125 (N : Nat → Nat) (R : Nat → Nat → Int32 → Int32 → XM → Option (Int32 × XM)) (r79 : Nat → Int32 → Int32 → XM → Option (Int32 × XM)) (q0 : Nat) (x1 : Int32) (x2 : Int32) (m0 : XM) : Option (Int32 × XM) :=
    xv (x2 + 1) fun v1 => r79 q0 x1 v1 m0
def fX2_beginUnit_79 (N : Nat → Nat) (R : Nat → Nat → Int32 → Int32 → XM → Option (Int32 × XM)) : Nat → Nat → Int32 → Int32 → XM → Option (Int32 × XM)
  | 0, _, _, _, _ => none
  | n + 1, q0, x1, x2, m0 => xv (fun q0 x1 x2 m0 => fX2_beginUnit_79 N R n q0 x1 x2 m0) fun r79 =>
    xgr m0 q0 0 fun u1 => xgr m0 u1 3 fun u2 => xald N m0 u2 x1 fun v3 => if v3 ≤ (x2 : Int32) then (xgr m0 q0 1 fun u4 => xast N m0 u4 x1 2 fun m5 => xv (gi m5 q0 7) fun v6 => xv (v6 - 1 : Int32) fun v7 => xv (si m5 q0 7 v7) fun m8 => some (1, m8)) else (xgr m0 q0 0 fun u9 => xca (fX6_memberAt N u9 x1 x2 m0) fun v11 m10 => xgr m10 q0 0 fun u12 => xgr m10 u12 8 fun u13 => xald N m10 u13 v11 fun v14 => if (v14 : Int32) = 1 then (xca (R 2 q0 v11 0 m10) fun v16 m15 => if (v16 : Int32) = 0 then (some (0, m15)) else (fX2_beginUnit_125 N R r79 q0 x1 x2 m15)) else (fX2_beginUnit_125 N R r79 q0 x1 x2 m10))
def fX2_beginUnit_77 (N : Nat → Nat) (R : Nat → Nat → Int32 → Int32 → XM → Option (Int32 × XM)) (q0 : Nat) (x1 : Int32) (m0 : XM) : Option (Int32 × XM) :=
    fX2_beginUnit_79 N R XF q0 x1 0 m0
def fX2_beginUnit (N : Nat → Nat) (R : Nat → Nat → Int32 → Int32 → XM → Option (Int32 × XM)) (a0 : Nat) (a1 : Int32) (m0 : XM) : Option (Int32 × XM) :=
    xv (gi m0 a0 11) fun v1 => if 3000 ≤ (v1 : Int32) then (fX2_beginUnit_24 N R a0 m0) else (xv (a1 * 100 : Int32) fun v2 => xv (v2 + 99 : Int32) fun v3 => xca (fX2_openUp N a0 v3 m0) fun v5 m4 => if (v5 : Int32) = 0 then (fX2_beginUnit_24 N R a0 m4) else (xv (gi m4 a0 11) fun v6 => xv (v6 + 1 : Int32) fun v7 => xv (si m4 a0 11 v7) fun m8 => xcv (fX2_noteBegun N a0 a1 m8) fun m9 => xgr m9 a0 0 fun u10 => xgr m9 u10 2 fun u11 => xald N m9 u11 a1 fun v12 => if (v12 : Int32) = (-1) then (fX2_beginUnit_77 N R a0 a1 m9) else (xgr m9 a0 0 fun u13 => xgr m9 u13 2 fun u14 => xald N m9 u14 a1 fun v15 => xca (R 0 a0 v15 0 m9) fun v17 m16 => if (v17 : Int32) = 0 then (some (0, m16)) else (fX2_beginUnit_77 N R a0 a1 m16))))
def fX2_doMember (N : Nat → Nat) (R : Nat → Nat → Int32 → Int32 → XM → Option (Int32 × XM)) (a0 : Nat) (a1 : Int32) (m0 : XM) : Option (Int32 × XM) :=
    xgr m0 a0 0 fun u1 => xgr m0 u1 4 fun u2 => xald N m0 u2 a1 fun v3 => if (v3 : Int32) = 4 then (some (1, m0)) else (xgr m0 a0 0 fun u4 => xgr m0 u4 7 fun u5 => xald N m0 u5 a1 fun v6 => if (v6 : Int32) = (-1) then (some (1, m0)) else (xgr m0 a0 0 fun u7 => xgr m0 u7 7 fun u8 => xald N m0 u8 a1 fun v9 => xca (R 3 a0 v9 0 m0) fun v11 m10 => if (v11 : Int32) = 0 then (some (0, m10)) else (if (v3 : Int32) = 1 then (xgr m10 a0 2 fun u12 => xv (gi m10 a0 10) fun v13 => xast N m10 u12 a1 v13 fun m14 => xgr m14 a0 3 fun u15 => xast N m14 u15 a1 1 fun m16 => some (1, m16)) else (some (1, m10)))))
def fX2_doDeed_40 (N : Nat → Nat) (R : Nat → Nat → Int32 → Int32 → XM → Option (Int32 × XM)) (m0 : XM) : Option (Int32 × XM) :=
    some (1, m0)
def fX2_doDeed (N : Nat → Nat) (R : Nat → Nat → Int32 → Int32 → XM → Option (Int32 × XM)) (a0 : Nat) (a1 : Int32) (m0 : XM) : Option (Int32 × XM) :=
    xca (R 5 a0 a1 0 m0) fun v2 m1 => if (v2 : Int32) = 0 then (some (0, m1)) else (xgr m1 a0 0 fun u3 => xgr m1 u3 13 fun u4 => xgr m1 u4 6 fun u5 => xald N m1 u5 a1 fun v6 => if (v6 : Int32) = (-1) then (fX2_doDeed_40 N R m1) else (xv (gi m1 a0 10) fun v7 => xca (R 4 a0 v6 v7 m1) fun v9 m8 => if (v9 : Int32) = 0 then (some (0, m8)) else (fX2_doDeed_40 N R m8)))
def fX2_setVariable_38 (N : Nat → Nat) (R : Nat → Nat → Int32 → Int32 → XM → Option (Int32 × XM)) (q0 : Nat) (x1 : Int32) (x2 : Int32) (m0 : XM) : Option (Int32 × XM) :=
    xgr m0 q0 2 fun u1 => xast N m0 u1 x1 x2 fun m2 => some (1, m2)
def fX2_setVariable (N : Nat → Nat) (R : Nat → Nat → Int32 → Int32 → XM → Option (Int32 × XM)) (a0 : Nat) (a1 : Int32) (a2 : Int32) (m0 : XM) : Option (Int32 × XM) :=
    xdv 12 <| xv (a1 / 12 : Int32) fun v1 => xca (R 0 a0 v1 0 m0) fun v3 m2 => if (v3 : Int32) = 0 then (some (0, m2)) else (xca (fX2_spend N a0 m2) fun v5 m4 => if (v5 : Int32) = 0 then (some (0, m4)) else (xca (fX2_isEarly N a0 a1 m4) fun v7 m6 => if (v7 : Int32) = 0 then (fX2_setVariable_38 N R a0 a1 a2 m6) else (xv (gi m6 a0 13) fun v8 => xv (v8 + 1 : Int32) fun v9 => xv (si m6 a0 13 v9) fun m10 => fX2_setVariable_38 N R a0 a1 a2 m10)))
def fX2_workOut_122 (N : Nat → Nat) (R : Nat → Nat → Int32 → Int32 → XM → Option (Int32 × XM)) (r29 : Nat → Int32 → Nat → Int32 → Int32 → Int32 → XM → Option (Int32 × XM)) (q0 : Nat) (x1 : Int32) (q2 : Nat) (x3 : Int32) (x4 : Int32) (x5 : Int32) (m0 : XM) : Option (Int32 × XM) :=
    xv (x5 + 1) fun v1 => r29 q0 x1 q2 x3 x4 v1 m0
def fX2_workOut_29 (N : Nat → Nat) (R : Nat → Nat → Int32 → Int32 → XM → Option (Int32 × XM)) : Nat → Nat → Int32 → Nat → Int32 → Int32 → Int32 → XM → Option (Int32 × XM)
  | 0, _, _, _, _, _, _, _ => none
  | n + 1, q0, x1, q2, x3, x4, x5, m0 => xv (fun q0 x1 q2 x3 x4 x5 m0 => fX2_workOut_29 N R n q0 x1 q2 x3 x4 x5 m0) fun r29 =>
    xgr m0 q2 5 fun u1 => xald N m0 u1 x1 fun v2 => if v2 ≤ (x5 : Int32) then (xgr m0 q0 9 fun u3 => xald N m0 u3 x3 fun v4 => xv (si m0 q0 10 v4) fun m5 => some (1, m5)) else (xgr m0 q2 1 fun u6 => xald N m0 u6 x5 fun v7 => if (v7 : Int32) ≤ 3 then (xgr m0 q2 2 fun u8 => xald N m0 u8 x5 fun v9 => xca (R 6 q0 v7 v9 m0) fun v11 m10 => if (v11 : Int32) = 0 then (some (0, m10)) else (xv (x4 + 1) fun v12 => xgr m10 q0 9 fun u13 => xv (gi m10 q0 10) fun v14 => xast N m10 u13 v12 v14 fun m15 => fX2_workOut_122 N R r29 q0 x1 q2 x3 v12 x5 m15)) else (xv (x4 + (-1)) fun v16 => xgr m0 q0 9 fun u17 => xgr m0 q0 9 fun u18 => xald N m0 u18 v16 fun v19 => xgr m0 q0 9 fun u20 => xv (v16 + 1 : Int32) fun v21 => xald N m0 u20 v21 fun v22 => xca (fX2_join N q0 v7 v19 v22 m0) fun v24 m23 => xast N m23 u17 v16 v24 fun m25 => fX2_workOut_122 N R r29 q0 x1 q2 x3 v16 x5 m25))
def fX2_workOut (N : Nat → Nat) (R : Nat → Nat → Int32 → Int32 → XM → Option (Int32 × XM)) (a0 : Nat) (a1 : Int32) (m0 : XM) : Option (Int32 × XM) :=
    xgr m0 a0 0 fun u1 => xgr m0 u1 13 fun u2 => xv (gi m0 a0 7) fun v3 => xv (v3 * 8 : Int32) fun v4 => xv (v4 - 1 : Int32) fun v5 => xgr m0 u2 4 fun u6 => xald N m0 u6 a1 fun v7 => fX2_workOut_29 N R XF a0 a1 u2 v4 v5 v7 m0
def fX2_workOutTerm_66 (N : Nat → Nat) (R : Nat → Nat → Int32 → Int32 → XM → Option (Int32 × XM)) (m0 : XM) : Option (Int32 × XM) :=
    some (0, m0)
def fX2_workOutTerm_91 (N : Nat → Nat) (R : Nat → Nat → Int32 → Int32 → XM → Option (Int32 × XM)) (m0 : XM) : Option (Int32 × XM) :=
    some (0, m0)
def fX2_workOutTerm (N : Nat → Nat) (R : Nat → Nat → Int32 → Int32 → XM → Option (Int32 × XM)) (a0 : Nat) (a1 : Int32) (a2 : Int32) (m0 : XM) : Option (Int32 × XM) :=
    xca (fX2_spend N a0 m0) fun v2 m1 => if (v2 : Int32) = 0 then (some (0, m1)) else (if (a1 : Int32) = 0 then (xv (si m1 a0 10 a2) fun m4 => some (1, m4)) else (if (a1 : Int32) = 1 then (xdv 12 <| xv (a2 / 12 : Int32) fun v6 => xca (R 0 a0 v6 0 m1) fun v8 m7 => if (v8 : Int32) = 0 then (fX2_workOutTerm_66 N R m7) else (xca (fX2_readVariable N a0 a2 m7) fun v10 m9 => if (v10 : Int32) = 0 then (fX2_workOutTerm_66 N R m9) else (some (1, m9)))) else (if (a1 : Int32) = 2 then (xdv 12 <| xv (a2 / 12 : Int32) fun v12 => xca (R 0 a0 v12 0 m1) fun v14 m13 => if (v14 : Int32) = 0 then (fX2_workOutTerm_91 N R m13) else (xca (R 7 a0 a2 0 m13) fun v16 m15 => if (v16 : Int32) = 0 then (fX2_workOutTerm_91 N R m15) else (some (1, m15)))) else (xca (fX2_failAll N a0 1 (-1) m1) fun v18 m17 => xnb v18 (some (v18, m17))))))
def fX2_callFunction_56 (N : Nat → Nat) (R : Nat → Nat → Int32 → Int32 → XM → Option (Int32 × XM)) : Nat → Nat → Int32 → Int32 → XM → Option (Int32 × XM)
  | 0, _, _, _, _ => none
  | n + 1, q0, x2, x3, m0 => xv (fun q0 x2 x3 m0 => fX2_callFunction_56 N R n q0 x2 x3 m0) fun r56 =>
    if x2 < (x3 : Int32) then (xv (gi m0 q0 7) fun v1 => xv (v1 - 1 : Int32) fun v2 => xv (si m0 q0 7 v2) fun m3 => some (1, m3)) else (xca (R 3 q0 x3 0 m0) fun v5 m4 => if (v5 : Int32) = 0 then (some (0, m4)) else (xv (x3 + 1) fun v6 => r56 q0 x2 v6 m4))
def fX2_callFunction (N : Nat → Nat) (R : Nat → Nat → Int32 → Int32 → XM → Option (Int32 × XM)) (a0 : Nat) (a1 : Int32) (m0 : XM) : Option (Int32 × XM) :=
    xdv 12 <| xv (a1 / 12 : Int32) fun v1 => xv (v1 * 100 : Int32) fun v2 => xgr m0 a0 0 fun u3 => xgr m0 u3 5 fun u4 => xald N m0 u4 a1 fun v5 => xv (v2 + v5 : Int32) fun v6 => xca (fX2_openUp N a0 v6 m0) fun v8 m7 => if (v8 : Int32) = 0 then (some (0, m7)) else (xgr m7 a0 0 fun u9 => xgr m7 u9 7 fun u10 => xald N m7 u10 a1 fun v11 => xgr m7 a0 0 fun u12 => xgr m7 u12 6 fun u13 => xald N m7 u13 a1 fun v14 => xv (v11 + v14 : Int32) fun v15 => xgr m7 a0 0 fun u16 => xgr m7 u16 7 fun u17 => xald N m7 u17 a1 fun v18 => fX2_callFunction_56 N R XF a0 v15 v18 m7)
def gX2_touchUnit (N : Nat → Nat) : Nat → Nat → Nat → Int32 → Int32 → XM → Option (Int32 × XM)
  | 0, _, _, _, _, _ => none
  | e + 1, t, q, x0, x1, m0 => xv (fun t q x0 x1 m0 => gX2_touchUnit N e t q x0 x1 m0) fun R =>
    if t = 0 then fX2_touchUnit N R q x0 m0 else if t = 1 then fX2_beginUnit N R q x0 m0 else if t = 2 then fX2_doMember N R q x0 m0 else if t = 3 then fX2_doDeed N R q x0 m0 else if t = 4 then fX2_setVariable N R q x0 x1 m0 else if t = 5 then fX2_workOut N R q x0 m0 else if t = 6 then fX2_workOutTerm N R q x0 x1 m0 else if t = 7 then fX2_callFunction N R q x0 m0 else none
def fX2_runMain_62 (N : Nat → Nat) (r5 : Nat → XM → Option XM) (q0 : Nat) (m0 : XM) : Option XM :=
    xv (gi m0 q0 16) fun v1 => xv (v1 + 1 : Int32) fun v2 => xv (si m0 q0 16 v2) fun m3 => r5 q0 m3
def fX2_runMain_5 (N : Nat → Nat) : Nat → Nat → XM → Option XM
  | 0, _, _ => none
  | n + 1, q0, m0 => xv (fun q0 m0 => fX2_runMain_5 N n q0 m0) fun r5 =>
    xv (gi m0 q0 16) fun v1 => xgr m0 q0 0 fun u2 => xv (gi m0 u2 11) fun v3 => if v3 ≤ (v1 : Int32) then (some m0) else (xv (gi m0 q0 15) fun v4 => if (v4 : Int32) = 0 then (xgr m0 q0 0 fun u5 => xgr m0 u5 12 fun u6 => xv (gi m0 q0 16) fun v7 => xald N m0 u6 v7 fun v8 => xca (gX2_touchUnit N 200 3 q0 v8 0 m0) fun v10 m9 => if (v10 : Int32) = 0 then (xv (gi m9 q0 15) fun v11 => if (v11 : Int32) = 0 then (xv (gi m9 q0 14) fun v12 => xv (v12 + 1 : Int32) fun v13 => xv (si m9 q0 14 v13) fun m14 => fX2_runMain_62 N r5 q0 m14) else (fX2_runMain_62 N r5 q0 m9)) else (fX2_runMain_62 N r5 q0 m9)) else (some m0))
def fX2_runMain (N : Nat → Nat) (a0 : Nat) (m0 : XM) : Option XM :=
    xv (si m0 a0 16 0) fun m1 => fX2_runMain_5 N XF a0 m1
def fX2_runPlainly (N : Nat → Nat) (a0 : Nat) (a1 : Nat) (m0 : XM) : Option XM :=
    xcv (fX2_reset N a0 a1 m0) fun m1 => xcv (fX2_runMain N a0 m1) fun m2 => some m2
def fX2_runAhead_7 (N : Nat → Nat) : Nat → Nat → Nat → Int32 → XM → Option XM
  | 0, _, _, _, _ => none
  | n + 1, q0, q2, x3, m0 => xv (fun q0 q2 x3 m0 => fX2_runAhead_7 N n q0 q2 x3 m0) fun r7 =>
    xgr m0 q0 0 fun u1 => xv (gi m0 u1 0) fun v2 => if v2 ≤ (x3 : Int32) then (xcv (fX2_runMain N q0 m0) fun m3 => some m3) else (xv (Int32.ofNat (N q2)) fun v4 => if v4 ≤ (x3 : Int32) then (xcv (fX2_runMain N q0 m0) fun m5 => some m5) else (xv (gi m0 q0 15) fun v6 => if (v6 : Int32) = 0 then (xald N m0 q2 x3 fun v8 => xca (gX2_touchUnit N 200 0 q0 v8 0 m0) fun v10 m9 => xv (x3 + 1) fun v11 => r7 q0 q2 v11 m9) else (xcv (fX2_runMain N q0 m0) fun m7 => some m7)))
def fX2_runAhead (N : Nat → Nat) (a0 : Nat) (a1 : Nat) (a2 : Nat) (m0 : XM) : Option XM :=
    xcv (fX2_reset N a0 a1 m0) fun m1 => fX2_runAhead_7 N XF a0 a2 0 m1
def fX2_countState_28 (N : Nat → Nat) (r4 : Nat → Int32 → Int32 → Int32 → XM → Option (Int32 × XM)) (q0 : Nat) (x1 : Int32) (x2 : Int32) (x3 : Int32) (m0 : XM) : Option (Int32 × XM) :=
    xv (x3 + 1) fun v1 => r4 q0 x1 x2 v1 m0
def fX2_countState_4 (N : Nat → Nat) : Nat → Nat → Int32 → Int32 → Int32 → XM → Option (Int32 × XM)
  | 0, _, _, _, _, _ => none
  | n + 1, q0, x1, x2, x3, m0 => xv (fun q0 x1 x2 x3 m0 => fX2_countState_4 N n q0 x1 x2 x3 m0) fun r4 =>
    xgr m0 q0 0 fun u1 => xv (gi m0 u1 0) fun v2 => if v2 ≤ (x3 : Int32) then (some (x2, m0)) else (xgr m0 q0 1 fun u3 => xald N m0 u3 x3 fun v4 => if (v4 : Int32) = x1 then (xv (x2 + 1) fun v5 => fX2_countState_28 N r4 q0 x1 v5 x3 m0) else (fX2_countState_28 N r4 q0 x1 x2 x3 m0))
def fX2_countState (N : Nat → Nat) (a0 : Nat) (a1 : Int32) (m0 : XM) : Option (Int32 × XM) :=
    fX2_countState_4 N XF a0 a1 0 0 m0
def fX2_tally (N : Nat → Nat) (a0 : Nat) (a1 : Int32) (m0 : XM) : Option (Int32 × XM) :=
    if (a1 : Int32) = 0 then (xv (gi m0 a0 12) fun v2 => some (v2, m0)) else (if (a1 : Int32) = 1 then (xv (gi m0 a0 13) fun v4 => some (v4, m0)) else (if (a1 : Int32) = 2 then (xv (gi m0 a0 14) fun v6 => some (v6, m0)) else (if (a1 : Int32) = 3 then (xv (gi m0 a0 4) fun v8 => some (v8, m0)) else (if (a1 : Int32) = 4 then (xca (fX2_countState N a0 2 m0) fun v11 m10 => some (v11, m10)) else (if (a1 : Int32) = 5 then (xca (fX2_countState N a0 3 m0) fun v14 m13 => some (v14, m13)) else (if (a1 : Int32) = 6 then (xv (gi m0 a0 11) fun v16 => some (v16, m0)) else (xv (gi m0 a0 15) fun v17 => if (v17 : Int32) = 0 then (some (0, m0)) else (some (1, m0)))))))))
def fX2_agreesIn_53 (N : Nat → Nat) (r5 : Nat → Int32 → Nat → Int32 → XM → Option (Int32 × XM)) (q0 : Nat) (x1 : Int32) (q2 : Nat) (x3 : Int32) (m0 : XM) : Option (Int32 × XM) :=
    xv (x3 + 1) fun v1 => r5 q0 x1 q2 v1 m0
def fX2_agreesIn_5 (N : Nat → Nat) : Nat → Nat → Int32 → Nat → Int32 → XM → Option (Int32 × XM)
  | 0, _, _, _, _, _ => none
  | n + 1, q0, x1, q2, x3, m0 => xv (fun q0 x1 q2 x3 m0 => fX2_agreesIn_5 N n q0 x1 q2 x3 m0) fun r5 =>
    xv (x1 * 12 : Int32) fun v1 => xgr m0 q0 0 fun u2 => xgr m0 u2 3 fun u3 => xald N m0 u3 x1 fun v4 => xv (v1 + v4 : Int32) fun v5 => if v5 ≤ (x3 : Int32) then (some (1, m0)) else (xgr m0 q0 0 fun u6 => xgr m0 u6 4 fun u7 => xald N m0 u7 x3 fun v8 => if (v8 : Int32) = 1 then (xgr m0 q0 2 fun u9 => xald N m0 u9 x3 fun v10 => xgr m0 q2 2 fun u11 => xald N m0 u11 x3 fun v12 => if (v10 : Int32) = v12 then (fX2_agreesIn_53 N r5 q0 x1 q2 x3 m0) else (some (0, m0))) else (fX2_agreesIn_53 N r5 q0 x1 q2 x3 m0))
def fX2_agreesIn (N : Nat → Nat) (a0 : Nat) (a1 : Int32) (a2 : Nat) (m0 : XM) : Option (Int32 × XM) :=
    xv (a1 * 12 : Int32) fun v1 => fX2_agreesIn_5 N XF a0 a1 a2 v1 m0
def fX2_agreesWhereDone_34 (N : Nat → Nat) (r2 : Nat → Nat → Int32 → XM → Option (Int32 × XM)) (q0 : Nat) (q1 : Nat) (x2 : Int32) (m0 : XM) : Option (Int32 × XM) :=
    xv (x2 + 1) fun v1 => r2 q0 q1 v1 m0
def fX2_agreesWhereDone_2 (N : Nat → Nat) : Nat → Nat → Nat → Int32 → XM → Option (Int32 × XM)
  | 0, _, _, _, _ => none
  | n + 1, q0, q1, x2, m0 => xv (fun q0 q1 x2 m0 => fX2_agreesWhereDone_2 N n q0 q1 x2 m0) fun r2 =>
    xgr m0 q0 0 fun u1 => xv (gi m0 u1 0) fun v2 => if v2 ≤ (x2 : Int32) then (some (1, m0)) else (xgr m0 q0 1 fun u3 => xald N m0 u3 x2 fun v4 => if (v4 : Int32) = 2 then (xca (fX2_agreesIn N q0 x2 q1 m0) fun v6 m5 => if (v6 : Int32) = 0 then (some (0, m5)) else (fX2_agreesWhereDone_34 N r2 q0 q1 x2 m5)) else (fX2_agreesWhereDone_34 N r2 q0 q1 x2 m0))
def fX2_agreesWhereDone (N : Nat → Nat) (a0 : Nat) (a1 : Nat) (m0 : XM) : Option (Int32 × XM) :=
    fX2_agreesWhereDone_2 N XF a0 a1 0 m0
