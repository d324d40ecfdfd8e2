def fX7_noteFunction (N : Nat → Nat) (a0 : Nat) (a1 : Int32) (m0 : XM) : Option XM :=
    xgr m0 a0 6 fun u1 => xald N m0 u1 a1 fun v2 => if (v2 : Int32) = 0 then (xgr m0 a0 6 fun u3 => xast N m0 u3 a1 1 fun m4 => xgr m4 a0 5 fun u5 => xv (gi m4 a0 4) fun v6 => xast N m4 u5 v6 a1 fun m7 => xv (gi m7 a0 4) fun v8 => xv (v8 + 1 : Int32) fun v9 => xv (si m7 a0 4 v9) fun m10 => some m10) else (some m0)
def fX7_addDeed_107 (N : Nat → Nat) (r37 : Nat → Nat → Int32 → Int32 → XM → Option XM) (q0 : Nat) (q1 : Nat) (x2 : Int32) (x3 : Int32) (m0 : XM) : Option XM :=
    xv (x3 + 1) fun v1 => r37 q0 q1 x2 v1 m0
def fX7_addDeed_87 (N : Nat → Nat) (r37 : Nat → Nat → Int32 → Int32 → XM → Option XM) (q0 : Nat) (q1 : Nat) (x2 : Int32) (x3 : Int32) (m0 : XM) : Option XM :=
    xgr m0 q1 1 fun u1 => xald N m0 u1 x3 fun v2 => if (v2 : Int32) = 2 then (xgr m0 q1 2 fun u3 => xald N m0 u3 x3 fun v4 => xcv (fX7_noteFunction N q0 v4 m0) fun m5 => fX7_addDeed_107 N r37 q0 q1 x2 x3 m5) else (fX7_addDeed_107 N r37 q0 q1 x2 x3 m0)
def fX7_addDeed_67 (N : Nat → Nat) (r37 : Nat → Nat → Int32 → Int32 → XM → Option XM) (q0 : Nat) (q1 : Nat) (x2 : Int32) (x3 : Int32) (m0 : XM) : Option XM :=
    xv (gi m0 q0 3) fun v1 => xgr m0 q1 2 fun u2 => xald N m0 u2 x3 fun v3 => xdv 12 <| xv (v3 / 12 : Int32) fun v4 => xv (1 <<< (v4 &&& 31) : Int32) fun v5 => xv (v1 ||| v5 : Int32) fun v6 => xv (si m0 q0 3 v6) fun m7 => fX7_addDeed_87 N r37 q0 q1 x2 x3 m7
def fX7_addDeed_37 (N : Nat → Nat) : Nat → Nat → Nat → Int32 → Int32 → XM → Option XM
  | 0, _, _, _, _, _ => none
  | n + 1, q0, q1, x2, x3, m0 => xv (fun q0 q1 x2 x3 m0 => fX7_addDeed_37 N n q0 q1 x2 x3 m0) fun r37 =>
    xgr m0 q1 5 fun u1 => xald N m0 u1 x2 fun v2 => if v2 ≤ (x3 : Int32) then (some m0) else (xgr m0 q1 1 fun u3 => xald N m0 u3 x3 fun v4 => if (v4 : Int32) = 1 then (fX7_addDeed_67 N r37 q0 q1 x2 x3 m0) else (xgr m0 q1 1 fun u5 => xald N m0 u5 x3 fun v6 => if (v6 : Int32) = 2 then (fX7_addDeed_67 N r37 q0 q1 x2 x3 m0) else (fX7_addDeed_87 N r37 q0 q1 x2 x3 m0)))
def fX7_addDeed_30 (N : Nat → Nat) (q0 : Nat) (q1 : Nat) (x2 : Int32) (m0 : XM) : Option XM :=
    xgr m0 q1 4 fun u1 => xald N m0 u1 x2 fun v2 => fX7_addDeed_37 N XF q0 q1 x2 v2 m0
def fX7_addDeed (N : Nat → Nat) (a0 : Nat) (a1 : Nat) (a2 : Int32) (m0 : XM) : Option XM :=
    xgr m0 a1 6 fun u1 => xald N m0 u1 a2 fun v2 => if (v2 : Int32) = (-1) then (fX7_addDeed_30 N a0 a1 a2 m0) else (xv (gi m0 a0 3) fun v3 => xgr m0 a1 6 fun u4 => xald N m0 u4 a2 fun v5 => xdv 12 <| xv (v5 / 12 : Int32) fun v6 => xv (1 <<< (v6 &&& 31) : Int32) fun v7 => xv (v3 ||| v7 : Int32) fun v8 => xv (si m0 a0 3 v8) fun m9 => fX7_addDeed_30 N a0 a1 a2 m9)
def fX7_touchedBy_103 (N : Nat → Nat) (r44 : Nat → Nat → Int32 → Int32 → XM → Option (Int32 × XM)) (q0 : Nat) (q1 : Nat) (x2 : Int32) (x3 : Int32) (m0 : XM) : Option (Int32 × XM) :=
    xv (x3 + 1) fun v1 => r44 q0 q1 x2 v1 m0
def fX7_touchedBy_136 (N : Nat → Nat) (r111 : Nat → Nat → Int32 → XM → Option (Int32 × XM)) : Nat → Nat → Nat → Int32 → Int32 → Int32 → XM → Option (Int32 × XM)
  | 0, _, _, _, _, _, _ => none
  | n + 1, q0, q1, x3, x4, x5, m0 => xv (fun q0 q1 x3 x4 x5 m0 => fX7_touchedBy_136 N r111 n q0 q1 x3 x4 x5 m0) fun r136 =>
    xgr m0 q1 7 fun u1 => xald N m0 u1 x4 fun v2 => xgr m0 q1 6 fun u3 => xald N m0 u3 x4 fun v4 => xv (v2 + v4 : Int32) fun v5 => if v5 < (x5 : Int32) then (xv (x3 + 1) fun v6 => r111 q0 q1 v6 m0) else (xgr m0 q1 13 fun u7 => xcv (fX7_addDeed N q0 u7 x5 m0) fun m8 => xv (x5 + 1) fun v9 => r136 q0 q1 x3 x4 v9 m8)
def fX7_touchedBy_111 (N : Nat → Nat) : Nat → Nat → Nat → Int32 → XM → Option (Int32 × XM)
  | 0, _, _, _, _ => none
  | n + 1, q0, q1, x3, m0 => xv (fun q0 q1 x3 m0 => fX7_touchedBy_111 N n q0 q1 x3 m0) fun r111 =>
    xv (gi m0 q0 4) fun v1 => if v1 ≤ (x3 : Int32) then (xv (gi m0 q0 3) fun v2 => some (v2, m0)) else (xgr m0 q0 5 fun u3 => xald N m0 u3 x3 fun v4 => xgr m0 q1 7 fun u5 => xald N m0 u5 v4 fun v6 => fX7_touchedBy_136 N r111 XF q0 q1 x3 v4 v6 m0)
def fX7_touchedBy_44 (N : Nat → Nat) : Nat → Nat → Nat → Int32 → Int32 → XM → Option (Int32 × XM)
  | 0, _, _, _, _, _ => none
  | n + 1, q0, q1, x2, x3, m0 => xv (fun q0 q1 x2 x3 m0 => fX7_touchedBy_44 N n q0 q1 x2 x3 m0) fun r44 =>
    xv (x2 * 12 : Int32) fun v1 => xgr m0 q1 3 fun u2 => xald N m0 u2 x2 fun v3 => xv (v1 + v3 : Int32) fun v4 => if v4 ≤ (x3 : Int32) then (fX7_touchedBy_111 N XF q0 q1 0 m0) else (xgr m0 q1 8 fun u5 => xald N m0 u5 x3 fun v6 => if (v6 : Int32) = 1 then (xgr m0 q1 4 fun u7 => xald N m0 u7 x3 fun v8 => if (v8 : Int32) = 4 then (fX7_touchedBy_103 N r44 q0 q1 x2 x3 m0) else (xgr m0 q1 7 fun u9 => xald N m0 u9 x3 fun v10 => if (v10 : Int32) = (-1) then (fX7_touchedBy_103 N r44 q0 q1 x2 x3 m0) else (xgr m0 q1 13 fun u11 => xgr m0 q1 7 fun u12 => xald N m0 u12 x3 fun v13 => xcv (fX7_addDeed N q0 u11 v13 m0) fun m14 => fX7_touchedBy_103 N r44 q0 q1 x2 x3 m14))) else (fX7_touchedBy_103 N r44 q0 q1 x2 x3 m0))
def fX7_touchedBy_23 (N : Nat → Nat) (q0 : Nat) (q1 : Nat) (x2 : Int32) (p0 : Nat) (s1 : Int32) (m0 : XM) : Option (Int32 × XM) :=
    xv (si m0 p0 3 s1) fun m1 => xv (si m1 q0 4 0) fun m2 => xgr m2 q0 6 fun u3 => xcv (fJ7_fill_53178 N u3 0 m2) fun m4 => xv (x2 * 12 : Int32) fun v5 => fX7_touchedBy_44 N XF q0 q1 x2 v5 m4
def fX7_touchedBy (N : Nat → Nat) (a0 : Nat) (a1 : Nat) (a2 : Int32) (m0 : XM) : Option (Int32 × XM) :=
    xgr m0 a1 2 fun u1 => xald N m0 u1 a2 fun v2 => if (v2 : Int32) = (-1) then (fX7_touchedBy_23 N a0 a1 a2 a0 0 m0) else (xgr m0 a1 2 fun u3 => xald N m0 u3 a2 fun v4 => xv (1 <<< (v4 &&& 31) : Int32) fun v5 => fX7_touchedBy_23 N a0 a1 a2 a0 v5 m0)
def fX7_spin_96 (N : Nat → Nat) (r50 : Nat → Int32 → XM → Option XM) (r60 : Nat → Int32 → Int32 → XM → Option XM) (q0 : Nat) (x2 : Int32) (x3 : Int32) (m0 : XM) : Option XM :=
    xv (x3 + 1) fun v1 => r60 q0 x2 v1 m0
def fX7_spin_60 (N : Nat → Nat) (r50 : Nat → Int32 → XM → Option XM) : Nat → Nat → Int32 → Int32 → XM → Option XM
  | 0, _, _, _, _ => none
  | n + 1, q0, x2, x3, m0 => xv (fun q0 x2 x3 m0 => fX7_spin_60 N r50 n q0 x2 x3 m0) fun r60 =>
    xv (gi m0 q0 2) fun v1 => if v1 ≤ (x3 : Int32) then (xv (x2 + 1) fun v2 => r50 q0 v2 m0) else (xgr m0 q0 1 fun u3 => xald N m0 u3 x3 fun v4 => xv (v4 >>> (x2 &&& 31) : Int32) fun v5 => xv (v5 &&& 1 : Int32) fun v6 => if (v6 : Int32) = 0 then (fX7_spin_96 N r50 r60 q0 x2 x3 m0) else (xgr m0 q0 1 fun u7 => xald N m0 u7 x3 fun v8 => xgr m0 q0 1 fun u9 => xald N m0 u9 x2 fun v10 => xv (v8 ||| v10 : Int32) fun v11 => xast N m0 u7 x3 v11 fun m12 => fX7_spin_96 N r50 r60 q0 x2 x3 m12))
def fX7_spin_50 (N : Nat → Nat) : Nat → Nat → Int32 → XM → Option XM
  | 0, _, _, _ => none
  | n + 1, q0, x2, m0 => xv (fun q0 x2 m0 => fX7_spin_50 N n q0 x2 m0) fun r50 =>
    xv (gi m0 q0 2) fun v1 => if v1 ≤ (x2 : Int32) then (some m0) else (fX7_spin_60 N r50 XF q0 x2 0 m0)
def fX7_spin_10 (N : Nat → Nat) : Nat → Nat → Nat → Int32 → XM → Option XM
  | 0, _, _, _, _ => none
  | n + 1, q0, q1, x2, m0 => xv (fun q0 q1 x2 m0 => fX7_spin_10 N n q0 q1 x2 m0) fun r10 =>
    xv (gi m0 q0 2) fun v1 => if v1 ≤ (x2 : Int32) then (fX7_spin_50 N XF q0 0 m0) else (xgr m0 q0 0 fun u2 => xca (fX7_touchedBy N q0 q1 x2 m0) fun v4 m3 => xast N m3 u2 x2 v4 fun m5 => xgr m5 q0 1 fun u6 => xgr m5 q0 0 fun u7 => xald N m5 u7 x2 fun v8 => xast N m5 u6 x2 v8 fun m9 => xv (x2 + 1) fun v10 => r10 q0 q1 v10 m9)
def fX7_spin (N : Nat → Nat) (a0 : Nat) (a1 : Nat) (m0 : XM) : Option XM :=
    xv (gi m0 a1 0) fun v1 => xv (si m0 a0 2 v1) fun m2 => fX7_spin_10 N XF a0 a1 0 m2
def fX7_ringOf_44 (N : Nat → Nat) (r4 : Nat → Int32 → Int32 → Int32 → XM → Option (Int32 × XM)) (q0 : Nat) (x1 : Int32) (x2 : Int32) (x3 : Int32) (m0 : XM) : Option (Int32 × XM) :=
    xv (x3 + 1) fun v1 => r4 q0 x1 x2 v1 m0
def fX7_ringOf_4 (N : Nat → Nat) : Nat → Nat → Int32 → Int32 → Int32 → XM → Option (Int32 × XM)
  | 0, _, _, _, _, _ => none
  | n + 1, q0, x1, x2, x3, m0 => xv (fun q0 x1 x2 x3 m0 => fX7_ringOf_4 N n q0 x1 x2 x3 m0) fun r4 =>
    xv (gi m0 q0 2) fun v1 => if v1 ≤ (x3 : Int32) then (some (x2, m0)) else (xgr m0 q0 1 fun u2 => xald N m0 u2 x1 fun v3 => xv (v3 >>> (x3 &&& 31) : Int32) fun v4 => xv (v4 &&& 1 : Int32) fun v5 => if (v5 : Int32) = 0 then (fX7_ringOf_44 N r4 q0 x1 x2 x3 m0) else (xgr m0 q0 1 fun u6 => xald N m0 u6 x3 fun v7 => xv (v7 >>> (x1 &&& 31) : Int32) fun v8 => xv (v8 &&& 1 : Int32) fun v9 => if (v9 : Int32) = 0 then (fX7_ringOf_44 N r4 q0 x1 x2 x3 m0) else (xv (1 <<< (x3 &&& 31) : Int32) fun v10 => xv (x2 ||| v10 : Int32) fun v11 => fX7_ringOf_44 N r4 q0 x1 v11 x3 m0)))
def fX7_ringOf (N : Nat → Nat) (a0 : Nat) (a1 : Int32) (m0 : XM) : Option (Int32 × XM) :=
    fX7_ringOf_4 N XF a0 a1 0 0 m0
def fX7_brokenAhead (N : Nat → Nat) (a0 : Nat) (a1 : Int32) (a2 : Int32) (m0 : XM) : Option (Int32 × XM) :=
    xgr m0 a0 0 fun u1 => xald N m0 u1 a1 fun v2 => xv (v2 &&& a2 : Int32) fun v3 => xv (1 <<< (a1 &&& 31) : Int32) fun v4 => xv (v4 ^^^ (-1) : Int32) fun v5 => xv (v3 &&& v5 : Int32) fun v6 => xca (fJ6_bitCount_0f7a4 N v6 m0) fun v8 m7 => some (v8, m7)
def fX7_countBroken_14 (N : Nat → Nat) : Nat → Nat → Nat → Int32 → Int32 → Int32 → XM → Option (Int32 × XM)
  | 0, _, _, _, _, _, _ => none
  | n + 1, q0, q1, x2, x3, x4, m0 => xv (fun q0 q1 x2 x3 x4 m0 => fX7_countBroken_14 N n q0 q1 x2 x3 x4 m0) fun r14 =>
    xv (gi m0 q0 2) fun v1 => if v1 ≤ (x4 : Int32) then (some (x3, m0)) else (xv (Int32.ofNat (N q1)) fun v2 => if v2 ≤ (x4 : Int32) then (some (x3, m0)) else (xald N m0 q1 x4 fun v3 => xca (fX7_brokenAhead N q0 v3 x2 m0) fun v5 m4 => xv (x3 + v5 : Int32) fun v6 => xald N m4 q1 x4 fun v7 => xv (1 <<< (v7 &&& 31) : Int32) fun v8 => xv (v8 ^^^ (-1) : Int32) fun v9 => xv (x2 &&& v9 : Int32) fun v10 => xv (x4 + 1) fun v11 => r14 q0 q1 v10 v6 v11 m4))
def fX7_countBroken (N : Nat → Nat) (a0 : Nat) (a1 : Nat) (m0 : XM) : Option (Int32 × XM) :=
    xv (gi m0 a0 2) fun v1 => xv (1 <<< (v1 &&& 31) : Int32) fun v2 => xv (v2 - 1 : Int32) fun v3 => fX7_countBroken_14 N XF a0 a1 v3 0 0 m0
def fX7_fewestWith (N : Nat → Nat) (a0 : Nat) (a1 : Int32) (a2 : Int32) (m0 : XM) : Option (Int32 × XM) :=
    xca (fX7_brokenAhead N a0 a1 a2 m0) fun v2 m1 => xgr m1 a0 7 fun u3 => xv (1 <<< (a1 &&& 31) : Int32) fun v4 => xv (v4 ^^^ (-1) : Int32) fun v5 => xv (a2 &&& v5 : Int32) fun v6 => xald N m1 u3 v6 fun v7 => xv (v2 + v7 : Int32) fun v8 => some (v8, m1)
def fX7_weighAll_66 (N : Nat → Nat) (r9 : Nat → Int32 → XM → Option XM) (r29 : Nat → Int32 → Int32 → XM → Option XM) (q0 : Nat) (x1 : Int32) (x2 : Int32) (m0 : XM) : Option XM :=
    xv (x2 + 1) fun v1 => r29 q0 x1 v1 m0
def fX7_weighAll_29 (N : Nat → Nat) (r9 : Nat → Int32 → XM → Option XM) : Nat → Nat → Int32 → Int32 → XM → Option XM
  | 0, _, _, _, _ => none
  | n + 1, q0, x1, x2, m0 => xv (fun q0 x1 x2 m0 => fX7_weighAll_29 N r9 n q0 x1 x2 m0) fun r29 =>
    xv (gi m0 q0 2) fun v1 => if v1 ≤ (x2 : Int32) then (xv (x1 + 1) fun v2 => r9 q0 v2 m0) else (xv (x1 >>> (x2 &&& 31) : Int32) fun v3 => xv (v3 &&& 1 : Int32) fun v4 => if (v4 : Int32) = 0 then (fX7_weighAll_66 N r9 r29 q0 x1 x2 m0) else (xgr m0 q0 7 fun u5 => xgr m0 q0 7 fun u6 => xald N m0 u6 x1 fun v7 => xca (fX7_fewestWith N q0 x2 x1 m0) fun v9 m8 => xca (fJ9_min_7cf53 N v7 v9 m8) fun v11 m10 => xast N m10 u5 x1 v11 fun m12 => fX7_weighAll_66 N r9 r29 q0 x1 x2 m12))
def fX7_weighAll_9 (N : Nat → Nat) : Nat → Nat → Int32 → XM → Option XM
  | 0, _, _, _ => none
  | n + 1, q0, x1, m0 => xv (fun q0 x1 m0 => fX7_weighAll_9 N n q0 x1 m0) fun r9 =>
    xv (gi m0 q0 2) fun v1 => xv (1 <<< (v1 &&& 31) : Int32) fun v2 => if v2 ≤ (x1 : Int32) then (some m0) else (xgr m0 q0 7 fun u3 => xast N m0 u3 x1 49 fun m4 => fX7_weighAll_29 N r9 XF q0 x1 0 m4)
def fX7_weighAll (N : Nat → Nat) (a0 : Nat) (m0 : XM) : Option XM :=
    xgr m0 a0 7 fun u1 => xast N m0 u1 0 0 fun m2 => fX7_weighAll_9 N XF a0 1 m2
def fX7_fewestBroken (N : Nat → Nat) (a0 : Nat) (m0 : XM) : Option (Int32 × XM) :=
    xcv (fX7_weighAll N a0 m0) fun m1 => xgr m1 a0 7 fun u2 => xv (gi m1 a0 2) fun v3 => xv (1 <<< (v3 &&& 31) : Int32) fun v4 => xv (v4 - 1 : Int32) fun v5 => xald N m1 u2 v5 fun v6 => some (v6, m1)
def fX7_firstOfFewest_35 (N : Nat → Nat) (r2 : Nat → Int32 → Int32 → XM → Option (Int32 × XM)) (q0 : Nat) (x1 : Int32) (x2 : Int32) (m0 : XM) : Option (Int32 × XM) :=
    xv (x2 + 1) fun v1 => r2 q0 x1 v1 m0
def fX7_firstOfFewest_2 (N : Nat → Nat) : Nat → Nat → Int32 → Int32 → XM → Option (Int32 × XM)
  | 0, _, _, _, _ => none
  | n + 1, q0, x1, x2, m0 => xv (fun q0 x1 x2 m0 => fX7_firstOfFewest_2 N n q0 x1 x2 m0) fun r2 =>
    xv (gi m0 q0 2) fun v1 => if v1 ≤ (x2 : Int32) then (some (0, m0)) else (xv (x1 >>> (x2 &&& 31) : Int32) fun v2 => xv (v2 &&& 1 : Int32) fun v3 => if (v3 : Int32) = 0 then (fX7_firstOfFewest_35 N r2 q0 x1 x2 m0) else (xca (fX7_fewestWith N q0 x2 x1 m0) fun v5 m4 => xgr m4 q0 7 fun u6 => xald N m4 u6 x1 fun v7 => if (v5 : Int32) = v7 then (some (x2, m4)) else (fX7_firstOfFewest_35 N r2 q0 x1 x2 m4)))
def fX7_firstOfFewest (N : Nat → Nat) (a0 : Nat) (a1 : Int32) (m0 : XM) : Option (Int32 × XM) :=
    fX7_firstOfFewest_2 N XF a0 a1 0 m0
def fX7_leastBreaking_17 (N : Nat → Nat) : Nat → Nat → Int32 → Int32 → Int32 → XM → Option (Int32 × XM)
  | 0, _, _, _, _, _ => none
  | n + 1, q0, x1, x2, x3, m0 => xv (fun q0 x1 x2 x3 m0 => fX7_leastBreaking_17 N n q0 x1 x2 x3 m0) fun r17 =>
    xv (gi m0 q0 2) fun v1 => if v1 ≤ (x3 : Int32) then (some (x1, m0)) else (xca (fX7_firstOfFewest N q0 x2 m0) fun v3 m2 => xv (x1 * 10 : Int32) fun v4 => xv (v4 + v3 : Int32) fun v5 => xv (1 <<< (v3 &&& 31) : Int32) fun v6 => xv (v6 ^^^ (-1) : Int32) fun v7 => xv (x2 &&& v7 : Int32) fun v8 => xv (x3 + 1) fun v9 => r17 q0 v5 v8 v9 m2)
def fX7_leastBreaking (N : Nat → Nat) (a0 : Nat) (m0 : XM) : Option (Int32 × XM) :=
    xcv (fX7_weighAll N a0 m0) fun m1 => xv (gi m1 a0 2) fun v2 => xv (1 <<< (v2 &&& 31) : Int32) fun v3 => xv (v3 - 1 : Int32) fun v4 => fX7_leastBreaking_17 N XF a0 0 v4 0 m1
