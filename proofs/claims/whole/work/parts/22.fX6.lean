def fX6_memberAt (N : Nat → Nat) (a0 : Nat) (a1 : Int32) (a2 : Int32) (m0 : XM) : Option (Int32 × XM) :=
    xgr m0 a0 9 fun u1 => xv (a1 * 12 : Int32) fun v2 => xv (v2 + a2 : Int32) fun v3 => xald N m0 u1 v3 fun v4 => some (v4, m0)
def fX6_flip (N : Nat → Nat) (a0 : Nat) (a1 : Int32) (a2 : Int32) (m0 : XM) : Option XM :=
    xca (fX6_memberAt N a0 a1 a2 m0) fun v2 m1 => xgr m1 a0 8 fun u3 => xgr m1 a0 8 fun u4 => xald N m1 u4 v2 fun v5 => xv (1 - v5 : Int32) fun v6 => xast N m1 u3 v2 v6 fun m7 => some m7
def fX6_shift_57 (N : Nat → Nat) : Nat → Nat → Int32 → Int32 → Int32 → Int32 → XM → Option XM
  | 0, _, _, _, _, _, _ => none
  | n + 1, q0, x3, x4, x5, x6, m0 => xv (fun q0 x3 x4 x5 x6 m0 => fX6_shift_57 N n q0 x3 x4 x5 x6 m0) fun r57 =>
    if (x6 : Int32) ≤ x3 then (xgr m0 q0 9 fun u1 => xv (x4 + x3 : Int32) fun v2 => xast N m0 u1 v2 x5 fun m3 => some m3) else (xgr m0 q0 9 fun u4 => xv (x4 + x6 : Int32) fun v5 => xgr m0 q0 9 fun u6 => xv (x4 + x6 : Int32) fun v7 => xv (v7 - 1 : Int32) fun v8 => xald N m0 u6 v8 fun v9 => xast N m0 u4 v5 v9 fun m10 => xv (x6 + (-1)) fun v11 => r57 q0 x3 x4 x5 v11 m10)
def fX6_shift_20 (N : Nat → Nat) : Nat → Nat → Int32 → Int32 → Int32 → Int32 → Int32 → XM → Option XM
  | 0, _, _, _, _, _, _, _ => none
  | n + 1, q0, x2, x3, x4, x5, x6, m0 => xv (fun q0 x2 x3 x4 x5 x6 m0 => fX6_shift_20 N n q0 x2 x3 x4 x5 x6 m0) fun r20 =>
    if x3 ≤ (x6 : Int32) then (fX6_shift_57 N XF q0 x3 x4 x5 x2 m0) else (xgr m0 q0 9 fun u1 => xv (x4 + x6 : Int32) fun v2 => xgr m0 q0 9 fun u3 => xv (x4 + x6 : Int32) fun v4 => xv (v4 + 1 : Int32) fun v5 => xald N m0 u3 v5 fun v6 => xast N m0 u1 v2 v6 fun m7 => xv (x6 + 1) fun v8 => r20 q0 x2 x3 x4 x5 v8 m7)
def fX6_shift (N : Nat → Nat) (a0 : Nat) (a1 : Int32) (a2 : Int32) (a3 : Int32) (m0 : XM) : Option XM :=
    xv (a1 * 12 : Int32) fun v1 => xgr m0 a0 9 fun u2 => xv (v1 + a2 : Int32) fun v3 => xald N m0 u2 v3 fun v4 => fX6_shift_20 N XF a0 a2 a3 v1 v4 a2 m0
def fX6_clear (N : Nat → Nat) (a0 : Nat) (m0 : XM) : Option XM :=
    xv (si m0 a0 0 0) fun m1 => xv (si m1 a0 11 0) fun m2 => xgr m2 a0 13 fun u3 => xv (si m2 u3 0 0) fun m4 => xgr m4 a0 13 fun u5 => xv (si m4 u5 3 0) fun m6 => xgr m6 a0 3 fun u7 => xcv (fJ7_fill_53178 N u7 0 m6) fun m8 => xgr m8 a0 10 fun u9 => xcv (fJ7_fill_53178 N u9 (-1) m8) fun m10 => some m10
def fX6_addUnit (N : Nat → Nat) (a0 : Nat) (a1 : Int32) (a2 : Int32) (a3 : Int32) (m0 : XM) : Option XM :=
    xgr m0 a0 1 fun u1 => xast N m0 u1 a1 a2 fun m2 => xgr m2 a0 2 fun u3 => xast N m2 u3 a1 a3 fun m4 => xv (a1 + 1 : Int32) fun v5 => xv (si m4 a0 0 v5) fun m6 => some m6
def fX6_addMember (N : Nat → Nat) (a0 : Nat) (a1 : Int32) (a2 : Int32) (m0 : XM) : Option XM :=
    xgr m0 a0 4 fun u1 => xast N m0 u1 a1 a2 fun m2 => xgr m2 a0 5 fun u3 => xast N m2 u3 a1 (-1) fun m4 => xgr m4 a0 6 fun u5 => xast N m4 u5 a1 (-1) fun m6 => xgr m6 a0 7 fun u7 => xast N m6 u7 a1 (-1) fun m8 => xgr m8 a0 8 fun u9 => xast N m8 u9 a1 1 fun m10 => xgr m10 a0 9 fun u11 => xast N m10 u11 a1 a1 fun m12 => xgr m12 a0 3 fun u13 => xdv 12 <| xv (a1 / 12 : Int32) fun v14 => xald N m12 u13 v14 fun v15 => xv (v15 + 1 : Int32) fun v16 => xast N m12 u13 v14 v16 fun m17 => some m17
def fX6_memberNamed_24 (N : Nat → Nat) (m0 : XM) : Option (Int32 × XM) :=
    some ((-1), m0)
def fX6_memberNamed (N : Nat → Nat) (a0 : Nat) (a1 : Int32) (a2 : Int32) (m0 : XM) : Option (Int32 × XM) :=
    if (a2 : Int32) < 0 then (fX6_memberNamed_24 N m0) else (if 26 ≤ (a2 : Int32) then (fX6_memberNamed_24 N m0) else (xgr m0 a0 10 fun u1 => xv (a1 * 26 : Int32) fun v2 => xv (v2 + a2 : Int32) fun v3 => xald N m0 u1 v3 fun v4 => some (v4, m0)))
def fX6_nameOf (N : Nat → Nat) (a0 : Nat) (a1 : Int32) (m0 : XM) : Option (Int32 × XM) :=
    xgr m0 a0 4 fun u1 => xald N m0 u1 a1 fun v2 => if (v2 : Int32) = 3 then (xgr m0 a0 5 fun u5 => xgr m0 a0 13 fun u6 => xgr m0 u6 6 fun u7 => xgr m0 a0 7 fun u8 => xald N m0 u8 a1 fun v9 => xald N m0 u7 v9 fun v10 => xald N m0 u5 v10 fun v11 => some (v11, m0)) else (xgr m0 a0 5 fun u3 => xald N m0 u3 a1 fun v4 => some (v4, m0))
def fX6_termsOf (N : Nat → Nat) (a0 : Nat) (a1 : Int32) (m0 : XM) : Option (Int32 × XM) :=
    xgr m0 a0 7 fun u1 => xald N m0 u1 a1 fun v2 => if (v2 : Int32) = (-1) then (some (0, m0)) else (xgr m0 a0 13 fun u3 => xgr m0 a0 4 fun u4 => xald N m0 u4 a1 fun v5 => if (v5 : Int32) = 4 then (xgr m0 a0 7 fun u10 => xald N m0 u10 a1 fun v11 => xgr m0 a0 6 fun u12 => xald N m0 u12 a1 fun v13 => xv (v11 + v13 : Int32) fun v14 => xca (fX5_countTerms N u3 v14 m0) fun v16 m15 => some (v16, m15)) else (xgr m0 a0 7 fun u6 => xald N m0 u6 a1 fun v7 => xca (fX5_countTerms N u3 v7 m0) fun v9 m8 => some (v9, m8)))
def fX6_detailOf (N : Nat → Nat) (a0 : Nat) (a1 : Int32) (m0 : XM) : Option (Int32 × XM) :=
    xgr m0 a0 4 fun u1 => xald N m0 u1 a1 fun v2 => if (v2 : Int32) = 3 then (xgr m0 a0 13 fun u5 => xgr m0 u5 6 fun u6 => xgr m0 a0 7 fun u7 => xald N m0 u7 a1 fun v8 => xald N m0 u6 v8 fun v9 => xdv 12 <| xv (v9 / 12 : Int32) fun v10 => some (v10, m0)) else (xgr m0 a0 6 fun u3 => xald N m0 u3 a1 fun v4 => some (v4, m0))
def fX6_countKind_35 (N : Nat → Nat) (r5 : Nat → Int32 → Int32 → Int32 → Int32 → XM → Option (Int32 × XM)) (q0 : Nat) (x1 : Int32) (x2 : Int32) (x3 : Int32) (x4 : Int32) (m0 : XM) : Option (Int32 × XM) :=
    xv (x4 + 1) fun v1 => r5 q0 x1 x2 x3 v1 m0
def fX6_countKind_5 (N : Nat → Nat) : Nat → Nat → Int32 → Int32 → Int32 → Int32 → XM → Option (Int32 × XM)
  | 0, _, _, _, _, _, _ => none
  | n + 1, q0, x1, x2, x3, x4, m0 => xv (fun q0 x1 x2 x3 x4 m0 => fX6_countKind_5 N n q0 x1 x2 x3 x4 m0) fun r5 =>
    xgr m0 q0 3 fun u1 => xald N m0 u1 x1 fun v2 => if v2 ≤ (x4 : Int32) then (some (x3, m0)) else (xgr m0 q0 4 fun u3 => xv (x1 * 12 : Int32) fun v4 => xv (v4 + x4 : Int32) fun v5 => xald N m0 u3 v5 fun v6 => if (v6 : Int32) = x2 then (xv (x3 + 1) fun v7 => fX6_countKind_35 N r5 q0 x1 x2 v7 x4 m0) else (fX6_countKind_35 N r5 q0 x1 x2 x3 x4 m0))
def fX6_countKind (N : Nat → Nat) (a0 : Nat) (a1 : Int32) (a2 : Int32) (m0 : XM) : Option (Int32 × XM) :=
    fX6_countKind_5 N XF a0 a1 a2 0 0 m0
def fX6_countMembers_49 (N : Nat → Nat) (r4 : Nat → Int32 → Int32 → Int32 → XM → Option (Int32 × XM)) (r15 : Nat → Int32 → Int32 → Int32 → Int32 → XM → Option (Int32 × XM)) (q0 : Nat) (x1 : Int32) (x2 : Int32) (x3 : Int32) (x4 : Int32) (m0 : XM) : Option (Int32 × XM) :=
    xv (x4 + 1) fun v1 => r15 q0 x1 x2 x3 v1 m0
def fX6_countMembers_46 (N : Nat → Nat) (r4 : Nat → Int32 → Int32 → Int32 → XM → Option (Int32 × XM)) (r15 : Nat → Int32 → Int32 → Int32 → Int32 → XM → Option (Int32 × XM)) (q0 : Nat) (x1 : Int32) (x2 : Int32) (x3 : Int32) (x4 : Int32) (m0 : XM) : Option (Int32 × XM) :=
    xv (x2 + 1) fun v1 => fX6_countMembers_49 N r4 r15 q0 x1 v1 x3 x4 m0
def fX6_countMembers_15 (N : Nat → Nat) (r4 : Nat → Int32 → Int32 → Int32 → XM → Option (Int32 × XM)) : Nat → Nat → Int32 → Int32 → Int32 → Int32 → XM → Option (Int32 × XM)
  | 0, _, _, _, _, _, _ => none
  | n + 1, q0, x1, x2, x3, x4, m0 => xv (fun q0 x1 x2 x3 x4 m0 => fX6_countMembers_15 N r4 n q0 x1 x2 x3 x4 m0) fun r15 =>
    xgr m0 q0 3 fun u1 => xald N m0 u1 x3 fun v2 => if v2 ≤ (x4 : Int32) then (xv (x3 + 1) fun v3 => r4 q0 x1 x2 v3 m0) else (if (x1 : Int32) = 0 then (fX6_countMembers_46 N r4 r15 q0 x1 x2 x3 x4 m0) else (xgr m0 q0 8 fun u4 => xv (x3 * 12 : Int32) fun v5 => xv (v5 + x4 : Int32) fun v6 => xald N m0 u4 v6 fun v7 => if (v7 : Int32) = 1 then (fX6_countMembers_46 N r4 r15 q0 x1 x2 x3 x4 m0) else (fX6_countMembers_49 N r4 r15 q0 x1 x2 x3 x4 m0)))
def fX6_countMembers_4 (N : Nat → Nat) : Nat → Nat → Int32 → Int32 → Int32 → XM → Option (Int32 × XM)
  | 0, _, _, _, _, _ => none
  | n + 1, q0, x1, x2, x3, m0 => xv (fun q0 x1 x2 x3 m0 => fX6_countMembers_4 N n q0 x1 x2 x3 m0) fun r4 =>
    xv (gi m0 q0 0) fun v1 => if v1 ≤ (x3 : Int32) then (some (x2, m0)) else (fX6_countMembers_15 N r4 XF q0 x1 x2 x3 0 m0)
def fX6_countMembers (N : Nat → Nat) (a0 : Nat) (a1 : Int32) (m0 : XM) : Option (Int32 × XM) :=
    fX6_countMembers_4 N XF a0 a1 0 0 m0
