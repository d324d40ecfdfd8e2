def fX3_setStates_51 (N : Nat → Nat) (r15 : Nat → Int32 → Int32 → XM → Option XM) (q0 : Nat) (x2 : Int32) (x3 : Int32) (p0 : Nat) (s1 : Int32) (s2 : Int32) (m0 : XM) : Option XM :=
    xast N m0 p0 s1 s2 fun m1 => xv (x3 + 1) fun v2 => r15 q0 x2 v2 m1
def fX3_setStates_15 (N : Nat → Nat) : Nat → Nat → Int32 → Int32 → XM → Option XM
  | 0, _, _, _, _ => none
  | n + 1, q0, x2, x3, m0 => xv (fun q0 x2 x3 m0 => fX3_setStates_15 N n q0 x2 x3 m0) fun r15 =>
    if 7 ≤ (x3 : Int32) then (some m0) else (xdv 3 <| xv (xrem x2 3) fun v1 => xdv 3 <| xv (x2 / 3 : Int32) fun v2 => xgr m0 q0 4 fun u3 => xgr m0 u3 1 fun u4 => if (v1 : Int32) = 0 then (fX3_setStates_51 N r15 q0 v2 x3 u4 x3 0 m0) else (xv (v1 + 1 : Int32) fun v5 => fX3_setStates_51 N r15 q0 v2 x3 u4 x3 v5 m0))
def fX3_setStates (N : Nat → Nat) (a0 : Nat) (a1 : Int32) (m0 : XM) : Option XM :=
    xgr m0 a0 4 fun u1 => xgr m0 a0 5 fun u2 => xcv (fX2_reset N u1 u2 m0) fun m3 => fX3_setStates_15 N XF a0 a1 0 m3
def fX3_leapDone_56 (N : Nat → Nat) (r22 : Nat → Int32 → Int32 → XM → Option (Int64 × XM)) (q0 : Nat) (x3 : Int32) (s0 : Int32) (s1 : Int32) (m0 : XM) : Option (Int64 × XM) :=
    xv (s0 + s1 : Int32) fun v1 => xv (x3 + (-1)) fun v2 => r22 q0 v1 v2 m0
def fX3_leapDone_22 (N : Nat → Nat) : Nat → Nat → Int32 → Int32 → XM → Option (Int64 × XM)
  | 0, _, _, _, _ => none
  | n + 1, q0, x2, x3, m0 => xv (fun q0 x2 x3 m0 => fX3_leapDone_22 N n q0 x2 x3 m0) fun r22 =>
    if (x3 : Int32) < 0 then (xgr m0 q0 4 fun u1 => xv (gi m0 u1 12) fun v2 => xv ((v2 : Int32).toInt64) fun w3 => xv (w3 <<< ((24 : Int32).toInt64 &&& 63) : Int64) fun w4 => xgr m0 q0 4 fun u5 => xv (gi m0 u5 11) fun v6 => xv ((v6 : Int32).toInt64) fun w7 => xv (w7 <<< ((12 : Int32).toInt64 &&& 63) : Int64) fun w8 => xv (w4 ||| w8 : Int64) fun w9 => xv ((x2 : Int32).toInt64) fun w10 => xv (w9 ||| w10 : Int64) fun w11 => some (w11, m0)) else (xv (x2 * 3 : Int32) fun v12 => xgr m0 q0 4 fun u13 => xgr m0 u13 1 fun u14 => xald N m0 u14 x3 fun v15 => if (v15 : Int32) = 0 then (fX3_leapDone_56 N r22 q0 x3 v12 0 m0) else (xgr m0 q0 4 fun u16 => xgr m0 u16 1 fun u17 => xald N m0 u17 x3 fun v18 => xv (v18 - 1 : Int32) fun v19 => fX3_leapDone_56 N r22 q0 x3 v12 v19 m0))
def fX3_leapDone (N : Nat → Nat) (a0 : Nat) (a1 : Int32) (m0 : XM) : Option (Int64 × XM) :=
    xgr m0 a0 4 fun u1 => xv (gi m0 u1 15) fun v2 => if (v2 : Int32) = 0 then (fX3_leapDone_22 N XF a0 0 6 m0) else (xv ((a1 : Int32).toInt64) fun w3 => xv (12292096 ||| w3 : Int64) fun w4 => some (w4, m0))
def fX3_leapFrom_61 (N : Nat → Nat) (q0 : Nat) (x3 : Int32) (m0 : XM) : Option (Int64 × XM) :=
    xgr m0 q0 6 fun u1 => xlld N m0 u1 x3 fun v2 => some (v2, m0)
def fX3_leapFrom_50 (N : Nat → Nat) (q0 : Nat) (x1 : Int32) (x3 : Int32) (m0 : XM) : Option (Int64 × XM) :=
    xgr m0 q0 6 fun u1 => xca (fX3_leapDone N q0 x1 m0) fun w3 m2 => xlst N m2 u1 x3 w3 fun m4 => fX3_leapFrom_61 N q0 x3 m4
def fX3_leapFrom (N : Nat → Nat) (a0 : Nat) (a1 : Int32) (a2 : Int32) (m0 : XM) : Option (Int64 × XM) :=
    xv (a1 * 8 : Int32) fun v1 => xv (v1 + a2 : Int32) fun v2 => xgr m0 a0 6 fun u3 => xlld N m0 u3 v2 fun v4 => xv (lg_cmp v4 (-1)) fun v5 => if (v5 : Int32) = 0 then (xcv (fX3_setStates N a0 a1 m0) fun m6 => if (a2 : Int32) = 7 then (xgr m6 a0 4 fun u10 => xcv (fX2_runMain N u10 m6) fun m11 => fX3_leapFrom_50 N a0 a1 v2 m11) else (xgr m6 a0 4 fun u7 => xca (gX2_touchUnit N 200 0 u7 a2 0 m6) fun v9 m8 => fX3_leapFrom_50 N a0 a1 v2 m8)) else (fX3_leapFrom_61 N a0 v2 m0)
def fX3_workOf (N : Nat → Nat) (a0 : Nat) (a1 : Int64) (m0 : XM) : Option (Int32 × XM) :=
    xv (a1 >>> ((12 : Int32).toInt64 &&& 63) : Int64) fun w1 => xv ((w1 : Int64).toInt32) fun v2 => xv (v2 &&& 4095 : Int32) fun v3 => some (v3, m0)
def fX3_sumUp (N : Nat → Nat) (a0 : Nat) (a1 : Int32) (a2 : Int32) (a3 : Int64) (m0 : XM) : Option (Int32 × XM) :=
    xca (fX3_workOf N a0 a3 m0) fun v2 m1 => xv (a2 + v2 : Int32) fun v3 => if (v3 : Int32) ≤ 3000 then (xv (a3 >>> ((24 : Int32).toInt64 &&& 63) : Int64) fun w4 => xv ((w4 : Int64).toInt32) fun v5 => xv (a1 + v5 : Int32) fun v6 => some (v6, m1)) else (some (1000000, m1))
def fX3_countOrder_39 (N : Nat → Nat) (q0 : Nat) (m0 : XM) : Option XM :=
    xv (gi m0 q0 3) fun v1 => xv (v1 + 1 : Int32) fun v2 => xv (si m0 q0 3 v2) fun m3 => some m3
def fX3_countOrder_24 (N : Nat → Nat) (q0 : Nat) (x1 : Int32) (x2 : Int32) (m0 : XM) : Option XM :=
    xv (si m0 q0 1 x1) fun m1 => xv (si m1 q0 2 x2) fun m2 => xv (si m2 q0 3 0) fun m3 => fX3_countOrder_39 N q0 m3
def fX3_countOrder (N : Nat → Nat) (a0 : Nat) (a1 : Int32) (a2 : Int32) (m0 : XM) : Option XM :=
    xv (gi m0 a0 1) fun v1 => if (a1 : Int32) ≤ v1 then (xv (gi m0 a0 1) fun v2 => if (a1 : Int32) < v2 then (fX3_countOrder_24 N a0 a1 a2 m0) else (xv (gi m0 a0 3) fun v3 => if (v3 : Int32) = 0 then (fX3_countOrder_24 N a0 a1 a2 m0) else (fX3_countOrder_39 N a0 m0))) else (some m0)
def fX3_lookOf (N : Nat → Nat) (a0 : Nat) (a1 : Int64) (m0 : XM) : Option (Int32 × XM) :=
    xv ((a1 : Int64).toInt32) fun v1 => xv (v1 &&& 4095 : Int32) fun v2 => some (v2, m0)
def fX3_goOn_120 (N : Nat → Nat) (R : Nat → Nat → Int32 → Int32 → Int32 → Int32 → Int32 → XM → Option (Int32 × XM)) (r49 : Nat → Int32 → Int32 → Int32 → Int32 → Int32 → Int32 → XM → Option XM) (q0 : Nat) (x1 : Int32) (x2 : Int32) (x3 : Int32) (x4 : Int32) (x5 : Int32) (x6 : Int32) (m0 : XM) : Option XM :=
    xv (x6 + 1) fun v1 => r49 q0 x1 x2 x3 x4 x5 v1 m0
def fX3_goOn_49 (N : Nat → Nat) (R : Nat → Nat → Int32 → Int32 → Int32 → Int32 → Int32 → XM → Option (Int32 × XM)) : Nat → Nat → Int32 → Int32 → Int32 → Int32 → Int32 → Int32 → XM → Option XM
  | 0, _, _, _, _, _, _, _, _ => none
  | n + 1, q0, x1, x2, x3, x4, x5, x6, m0 => xv (fun q0 x1 x2 x3 x4 x5 x6 m0 => fX3_goOn_49 N R n q0 x1 x2 x3 x4 x5 x6 m0) fun r49 =>
    xgr m0 q0 5 fun u1 => xv (gi m0 u1 0) fun v2 => if v2 ≤ (x6 : Int32) then (some m0) else (xv (x1 >>> (x6 &&& 31) : Int32) fun v3 => xv (v3 &&& 1 : Int32) fun v4 => if (v4 : Int32) = 0 then (xca (fX3_leapFrom N q0 x2 x6 m0) fun w6 m5 => xv (1 <<< (x6 &&& 31) : Int32) fun v7 => xv (x1 ||| v7 : Int32) fun v8 => xca (fX3_lookOf N q0 w6 m5) fun v10 m9 => xca (fX3_workOf N q0 w6 m9) fun v12 m11 => xv (x3 + v12 : Int32) fun v13 => xca (fX3_sumUp N q0 x4 x3 w6 m11) fun v15 m14 => xv (x5 * 10 : Int32) fun v16 => xv (v16 + x6 : Int32) fun v17 => xcv (R 0 q0 v8 v10 v13 v15 v17 m14 |>.map Prod.snd) fun m18 => fX3_goOn_120 N R r49 q0 x1 x2 x3 x4 x5 x6 m18) else (fX3_goOn_120 N R r49 q0 x1 x2 x3 x4 x5 x6 m0))
def fX3_goOn (N : Nat → Nat) (R : Nat → Nat → Int32 → Int32 → Int32 → Int32 → Int32 → XM → Option (Int32 × XM)) (a0 : Nat) (a1 : Int32) (a2 : Int32) (a3 : Int32) (a4 : Int32) (a5 : Int32) (m0 : XM) : Option XM :=
    xv (gi m0 a0 1) fun v1 => if (a4 : Int32) ≤ v1 then (xgr m0 a0 5 fun u2 => xv (gi m0 u2 0) fun v3 => xv (1 <<< (v3 &&& 31) : Int32) fun v4 => xv (v4 - 1 : Int32) fun v5 => if (a1 : Int32) = v5 then (xca (fX3_leapFrom N a0 a2 7 m0) fun w7 m6 => xca (fX3_sumUp N a0 a4 a3 w7 m6) fun v9 m8 => xcv (fX3_countOrder N a0 v9 a5 m8) fun m10 => some m10) else (fX3_goOn_49 N R XF a0 a1 a2 a3 a4 a5 0 m0)) else (some m0)
def gX3_goOn (N : Nat → Nat) : Nat → Nat → Nat → Int32 → Int32 → Int32 → Int32 → Int32 → XM → Option (Int32 × XM)
  | 0, _, _, _, _, _, _, _, _ => none
  | e + 1, t, q, x0, x1, x2, x3, x4, m0 => xv (fun t q x0 x1 x2 x3 x4 m0 => gX3_goOn N e t q x0 x1 x2 x3 x4 m0) fun R =>
    if t = 0 then ((fX3_goOn N R q x0 x1 x2 x3 x4 m0).map fun m => ((0 : Int32), m)) else none
def fX3_seekFewest (N : Nat → Nat) (a0 : Nat) (a1 : Nat) (m0 : XM) : Option XM :=
    xv (gi m0 a0 0) fun v1 => if (v1 : Int32) = 0 then (xv (sr m0 a0 5 (some a1)) fun m2 => xgr m2 a0 6 fun u3 => xcv (fJ7_fill_d0a16 N u3 (-1) m2) fun m4 => xv (si m4 a0 1 1000000) fun m5 => xv (si m5 a0 2 (-1)) fun m6 => xv (si m6 a0 3 0) fun m7 => xcv (gX3_goOn N 20 0 a0 0 0 0 0 0 m7 |>.map Prod.snd) fun m8 => xv (si m8 a0 0 1) fun m9 => some m9) else (some m0)
