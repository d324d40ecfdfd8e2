def fX9_thrown (N : Nat → Nat) (a0 : Nat) (m0 : XM) : Option (Int32 × XM) :=
    xv (gi m0 a0 0) fun v1 => some (v1, m0)
def fX9_bad_26 (N : Nat → Nat) (q0 : Nat) (m0 : XM) : Option (Int32 × XM) :=
    xv (gi m0 q0 0) fun v1 => if (v1 : Int32) = 0 then (some (0, m0)) else (some (1, m0))
def fX9_bad (N : Nat → Nat) (a0 : Nat) (a1 : Int32) (a2 : Int32) (a3 : Int32) (m0 : XM) : Option (Int32 × XM) :=
    if (a1 : Int32) = 0 then (fX9_bad_26 N a0 m0) else (xv (gi m0 a0 0) fun v1 => if (v1 : Int32) = 0 then (xv (si m0 a0 0 a2) fun m2 => xgr m2 a0 1 fun u3 => xald N m2 u3 a3 fun v4 => xv (v4 + 1 : Int32) fun v5 => xast N m2 u3 a3 v5 fun m6 => fX9_bad_26 N a0 m6) else (fX9_bad_26 N a0 m0))
def fX9_in_14 (N : Nat → Nat) (m0 : XM) : Option (Int32 × XM) :=
    some (0, m0)
def fX9_in (N : Nat → Nat) (a0 : Int32) (a1 : Int32) (a2 : Int32) (m0 : XM) : Option (Int32 × XM) :=
    if (a0 : Int32) < a1 then (fX9_in_14 N m0) else (if a2 < (a0 : Int32) then (fX9_in_14 N m0) else (some (1, m0)))
def fX9_less (N : Nat → Nat) (a0 : Int32) (a1 : Int32) (m0 : XM) : Option (Int32 × XM) :=
    if a1 ≤ (a0 : Int32) then (some (a1, m0)) else (some (a0, m0))
def fX9_more (N : Nat → Nat) (a0 : Int32) (a1 : Int32) (m0 : XM) : Option (Int32 × XM) :=
    if (a0 : Int32) ≤ a1 then (some (a1, m0)) else (some (a0, m0))
def fX9_bits_4 (N : Nat → Nat) : Nat → Int32 → Int32 → XM → Option (Int32 × XM)
  | 0, _, _, _ => none
  | n + 1, x1, x2, m0 => xv (fun x1 x2 m0 => fX9_bits_4 N n x1 x2 m0) fun r4 =>
    if (x2 : Int32) = 0 then (some (x1, m0)) else (xv (x1 + 1) fun v1 => xv (x2 - 1 : Int32) fun v2 => xv (x2 &&& v2 : Int32) fun v3 => r4 v1 v3 m0)
def fX9_bits (N : Nat → Nat) (a0 : Int32) (m0 : XM) : Option (Int32 × XM) :=
    fX9_bits_4 N XF 0 a0 m0
def fX9_feed_76 (N : Nat → Nat) (r23 : Nat → Int32 → Int32 → Int32 → Int32 → Int32 → Int32 → XM → Option (Int32 × XM)) (q0 : Nat) (x1 : Int32) (x2 : Int32) (x3 : Int32) (x4 : Int32) (x5 : Int32) (x6 : Int32) (s0 : Int32) (m0 : XM) : Option (Int32 × XM) :=
    xgr m0 q0 8 fun u1 => xv (gi m0 q0 2) fun v2 => xdv 4 <| xv (xrem x6 4) fun v3 => xv (8 * v3 : Int32) fun v4 => xv (24 - v4 : Int32) fun v5 => xv (s0 >>> (v5 &&& 31) : Int32) fun v6 => xv (v6 &&& 255 : Int32) fun v7 => xast N m0 u1 v2 v7 fun m8 => xv (gi m8 q0 2) fun v9 => xv (v9 + 1 : Int32) fun v10 => xv (si m8 q0 2 v10) fun m11 => xv (x6 + 1) fun v12 => r23 q0 x1 x2 x3 x4 x5 v12 m11
def fX9_feed_23 (N : Nat → Nat) : Nat → Nat → Int32 → Int32 → Int32 → Int32 → Int32 → Int32 → XM → Option (Int32 × XM)
  | 0, _, _, _, _, _, _, _, _ => none
  | n + 1, q0, x1, x2, x3, x4, x5, x6, m0 => xv (fun q0 x1 x2 x3 x4 x5 x6 m0 => fX9_feed_23 N n q0 x1 x2 x3 x4 x5 x6 m0) fun r23 =>
    if 20 ≤ (x6 : Int32) then (xv (gi m0 q0 2) fun v1 => some (v1, m0)) else (if 4 ≤ (x6 : Int32) then (if 8 ≤ (x6 : Int32) then (if 12 ≤ (x6 : Int32) then (if 16 ≤ (x6 : Int32) then (fX9_feed_76 N r23 q0 x1 x2 x3 x4 x5 x6 x5 m0) else (fX9_feed_76 N r23 q0 x1 x2 x3 x4 x5 x6 x4 m0)) else (fX9_feed_76 N r23 q0 x1 x2 x3 x4 x5 x6 x3 m0)) else (fX9_feed_76 N r23 q0 x1 x2 x3 x4 x5 x6 x2 m0)) else (fX9_feed_76 N r23 q0 x1 x2 x3 x4 x5 x6 x1 m0))
def fX9_feed (N : Nat → Nat) (a0 : Nat) (a1 : Int32) (a2 : Int32) (a3 : Int32) (a4 : Int32) (a5 : Int32) (m0 : XM) : Option (Int32 × XM) :=
    xv (si m0 a0 0 0) fun m1 => xv (gi m1 a0 2) fun v2 => xv (v2 + 20 : Int32) fun v3 => if (v3 : Int32) ≤ 600 then (fX9_feed_23 N XF a0 a1 a2 a3 a4 a5 0 m1) else (some ((-1), m1))
def fX9_unitOf (N : Nat → Nat) (a0 : Nat) (a1 : Int32) (a2 : Int32) (m0 : XM) : Option (Int32 × XM) :=
    xv (15 * a1 : Int32) fun v1 => xv (5 + v1 : Int32) fun v2 => xv (v2 + a2 : Int32) fun v3 => xald N m0 a0 v3 fun v4 => some (v4, m0)
def fX9_memberAt (N : Nat → Nat) (a0 : Nat) (a1 : Int32) (a2 : Int32) (m0 : XM) : Option (Int32 × XM) :=
    xv (15 * a1 : Int32) fun v1 => xv (5 + v1 : Int32) fun v2 => xv (v2 + 3 : Int32) fun v3 => xv (v3 + a2 : Int32) fun v4 => xald N m0 a0 v4 fun v5 => some (v5, m0)
def fX9_ofMember (N : Nat → Nat) (a0 : Nat) (a1 : Int32) (a2 : Int32) (m0 : XM) : Option (Int32 × XM) :=
    xv (5 * a1 : Int32) fun v1 => xv (110 + v1 : Int32) fun v2 => xv (v2 + a2 : Int32) fun v3 => xald N m0 a0 v3 fun v4 => some (v4, m0)
def fX9_ofAct (N : Nat → Nat) (a0 : Nat) (a1 : Int32) (a2 : Int32) (m0 : XM) : Option (Int32 × XM) :=
    xv (4 * a1 : Int32) fun v1 => xv (530 + v1 : Int32) fun v2 => xv (v2 + a2 : Int32) fun v3 => xald N m0 a0 v3 fun v4 => some (v4, m0)
def fX9_ofTerm (N : Nat → Nat) (a0 : Nat) (a1 : Int32) (a2 : Int32) (m0 : XM) : Option (Int32 × XM) :=
    xv (6 * a1 : Int32) fun v1 => xv (1410 + v1 : Int32) fun v2 => xv (v2 + a2 : Int32) fun v3 => xald N m0 a0 v3 fun v4 => some (v4, m0)
def fX9_unitBy_2 (N : Nat → Nat) : Nat → Nat → Int32 → Int32 → XM → Option (Int32 × XM)
  | 0, _, _, _, _ => none
  | n + 1, q0, x1, x2, m0 => xv (fun q0 x1 x2 m0 => fX9_unitBy_2 N n q0 x1 x2 m0) fun r2 =>
    xald N m0 q0 0 fun v1 => if v1 ≤ (x2 : Int32) then (some ((-1), m0)) else (xca (fX9_unitOf N q0 x2 0 m0) fun v3 m2 => if (v3 : Int32) = x1 then (some (x2, m2)) else (xv (x2 + 1) fun v4 => r2 q0 x1 v4 m2))
def fX9_unitBy (N : Nat → Nat) (a0 : Nat) (a1 : Int32) (m0 : XM) : Option (Int32 × XM) :=
    fX9_unitBy_2 N XF a0 a1 0 m0
def fX9_named_60 (N : Nat → Nat) (r2 : Nat → Int32 → Int32 → Int32 → XM → Option (Int32 × XM)) (q0 : Nat) (x1 : Int32) (x2 : Int32) (x3 : Int32) (m0 : XM) : Option (Int32 × XM) :=
    xv (x3 + 1) fun v1 => r2 q0 x1 x2 v1 m0
def fX9_named_46 (N : Nat → Nat) (r2 : Nat → Int32 → Int32 → Int32 → XM → Option (Int32 × XM)) (q0 : Nat) (x1 : Int32) (x2 : Int32) (x3 : Int32) (x4 : Int32) (m0 : XM) : Option (Int32 × XM) :=
    xca (fX9_ofMember N q0 x4 1 m0) fun v2 m1 => if (v2 : Int32) = x2 then (some (x4, m1)) else (fX9_named_60 N r2 q0 x1 x2 x3 m1)
def fX9_named_2 (N : Nat → Nat) : Nat → Nat → Int32 → Int32 → Int32 → XM → Option (Int32 × XM)
  | 0, _, _, _, _, _ => none
  | n + 1, q0, x1, x2, x3, m0 => xv (fun q0 x1 x2 x3 m0 => fX9_named_2 N n q0 x1 x2 x3 m0) fun r2 =>
    xca (fX9_unitOf N q0 x1 2 m0) fun v2 m1 => if v2 ≤ (x3 : Int32) then (some ((-1), m1)) else (xca (fX9_memberAt N q0 x1 x3 m1) fun v4 m3 => xca (fX9_ofMember N q0 v4 0 m3) fun v6 m5 => if (v6 : Int32) = 0 then (fX9_named_46 N r2 q0 x1 x2 x3 v4 m5) else (if (v6 : Int32) = 1 then (fX9_named_46 N r2 q0 x1 x2 x3 v4 m5) else (if (v6 : Int32) = 4 then (fX9_named_46 N r2 q0 x1 x2 x3 v4 m5) else (fX9_named_60 N r2 q0 x1 x2 x3 m5))))
def fX9_named (N : Nat → Nat) (a0 : Nat) (a1 : Int32) (a2 : Int32) (m0 : XM) : Option (Int32 × XM) :=
    fX9_named_2 N XF a0 a1 a2 0 m0
def fX9_byteAt (N : Nat → Nat) (a0 : Nat) (a1 : Int32) (m0 : XM) : Option (Int32 × XM) :=
    xv (gi m0 a0 3) fun v1 => if (a1 : Int32) < v1 then (xgr m0 a0 8 fun u2 => xald N m0 u2 a1 fun v3 => some (v3, m0)) else (some ((-1), m0))
def fX9_here_0 (N : Nat → Nat) : Nat → Nat → XM → Option (Int32 × XM)
  | 0, _, _ => none
  | n + 1, q0, m0 => xv (fun q0 m0 => fX9_here_0 N n q0 m0) fun r0 =>
    xv (gi m0 q0 4) fun v1 => xca (fX9_byteAt N q0 v1 m0) fun v3 m2 => if (v3 : Int32) = 32 then (xv (gi m2 q0 4) fun v7 => xv (v7 + 1 : Int32) fun v8 => xv (si m2 q0 4 v8) fun m9 => r0 q0 m9) else (xv (gi m2 q0 4) fun v4 => xca (fX9_byteAt N q0 v4 m2) fun v6 m5 => some (v6, m5))
def fX9_here (N : Nat → Nat) (a0 : Nat) (m0 : XM) : Option (Int32 × XM) :=
    fX9_here_0 N XF a0 m0
def fX9_fine (N : Nat → Nat) (a0 : Nat) (m0 : XM) : Option (Int32 × XM) :=
    xv (gi m0 a0 6) fun v1 => if (v1 : Int32) = 0 then (some (1, m0)) else (some (0, m0))
def fX9_wrong (N : Nat → Nat) (a0 : Nat) (a1 : Int32) (a2 : Int32) (m0 : XM) : Option (Int32 × XM) :=
    xv (gi m0 a0 6) fun v1 => if (v1 : Int32) = 0 then (xv (si m0 a0 6 a1) fun m2 => xv (si m2 a0 7 a2) fun m3 => some ((-1), m3)) else (some ((-1), m0))
def fX9_isSmall_16 (N : Nat → Nat) (m0 : XM) : Option (Int32 × XM) :=
    some (0, m0)
def fX9_isSmall (N : Nat → Nat) (a0 : Int32) (m0 : XM) : Option (Int32 × XM) :=
    if (a0 : Int32) < 97 then (fX9_isSmall_16 N m0) else (if 122 < (a0 : Int32) then (fX9_isSmall_16 N m0) else (some (1, m0)))
def fX9_isBig_16 (N : Nat → Nat) (m0 : XM) : Option (Int32 × XM) :=
    some (0, m0)
def fX9_isBig (N : Nat → Nat) (a0 : Int32) (m0 : XM) : Option (Int32 × XM) :=
    if (a0 : Int32) < 65 then (fX9_isBig_16 N m0) else (if 90 < (a0 : Int32) then (fX9_isBig_16 N m0) else (some (1, m0)))
def fX9_isDigit_16 (N : Nat → Nat) (m0 : XM) : Option (Int32 × XM) :=
    some (0, m0)
def fX9_isDigit (N : Nat → Nat) (a0 : Int32) (m0 : XM) : Option (Int32 × XM) :=
    if (a0 : Int32) < 48 then (fX9_isDigit_16 N m0) else (if 57 < (a0 : Int32) then (fX9_isDigit_16 N m0) else (some (1, m0)))
def fX9_isWord_67 (N : Nat → Nat) (m0 : XM) : Option (Int32 × XM) :=
    some (0, m0)
def fX9_isWord_39 (N : Nat → Nat) (q0 : Nat) (q1 : Nat) (x2 : Int32) (m0 : XM) : Option (Int32 × XM) :=
    xca (fJ0_length_8abf5 N q1 m0) fun v2 m1 => if (x2 : Int32) = v2 then (xv (gi m1 q0 4) fun v3 => xv (v3 + x2 : Int32) fun v4 => xca (fX9_byteAt N q0 v4 m1) fun v6 m5 => xca (fX9_isSmall N v6 m5) fun v8 m7 => if (v8 : Int32) = 0 then (some (1, m7)) else (fX9_isWord_67 N m7)) else (fX9_isWord_67 N m1)
def fX9_isWord_7 (N : Nat → Nat) : Nat → Nat → Nat → Int32 → XM → Option (Int32 × XM)
  | 0, _, _, _, _ => none
  | n + 1, q0, q1, x2, m0 => xv (fun q0 q1 x2 m0 => fX9_isWord_7 N n q0 q1 x2 m0) fun r7 =>
    xca (fJ0_length_8abf5 N q1 m0) fun v2 m1 => if v2 ≤ (x2 : Int32) then (fX9_isWord_39 N q0 q1 x2 m1) else (xv (gi m1 q0 4) fun v3 => xv (v3 + x2 : Int32) fun v4 => xca (fX9_byteAt N q0 v4 m1) fun v6 m5 => xca (fJ0_charAt_5068e N q1 x2 m5) fun v8 m7 => if (v6 : Int32) = v8 then (xv (x2 + 1) fun v9 => r7 q0 q1 v9 m7) else (fX9_isWord_39 N q0 q1 x2 m7))
def fX9_isWord (N : Nat → Nat) (a0 : Nat) (a1 : Nat) (m0 : XM) : Option (Int32 × XM) :=
    xca (fX9_here N a0 m0) fun v2 m1 => fX9_isWord_7 N XF a0 a1 0 m1
def fX9_takesWord (N : Nat → Nat) (a0 : Nat) (a1 : Nat) (m0 : XM) : Option (Int32 × XM) :=
    xca (fX9_fine N a0 m0) fun v2 m1 => if (v2 : Int32) = 0 then (some (0, m1)) else (xca (fX9_isWord N a0 a1 m1) fun v4 m3 => if (v4 : Int32) = 0 then (some (0, m3)) else (xv (gi m3 a0 4) fun v5 => xca (fJ0_length_8abf5 N a1 m3) fun v7 m6 => xv (v5 + v7 : Int32) fun v8 => xv (si m6 a0 4 v8) fun m9 => some (1, m9)))
def fX9_takesSign (N : Nat → Nat) (a0 : Nat) (a1 : Int32) (m0 : XM) : Option (Int32 × XM) :=
    xca (fX9_fine N a0 m0) fun v2 m1 => if (v2 : Int32) = 0 then (some (0, m1)) else (xca (fX9_here N a0 m1) fun v4 m3 => if (v4 : Int32) = a1 then (xv (gi m3 a0 4) fun v5 => xv (v5 + 1 : Int32) fun v6 => xv (si m3 a0 4 v6) fun m7 => some (1, m7)) else (some (0, m3)))
def fX9_must (N : Nat → Nat) (a0 : Nat) (a1 : Int32) (m0 : XM) : Option XM :=
    xca (fX9_fine N a0 m0) fun v2 m1 => if (v2 : Int32) = 0 then (some m1) else (xca (fX9_takesSign N a0 a1 m1) fun v4 m3 => if (v4 : Int32) = 0 then (xv (gi m3 a0 4) fun v5 => xca (fX9_wrong N a0 1 v5 m3) fun v7 m6 => some m6) else (some m3))
def fX9_isUnitHere_50 (N : Nat → Nat) (m0 : XM) : Option (Int32 × XM) :=
    some (0, m0)
def fX9_isUnitHere (N : Nat → Nat) (a0 : Nat) (m0 : XM) : Option (Int32 × XM) :=
    xca (fX9_here N a0 m0) fun v2 m1 => xca (fX9_in N v2 65 71 m1) fun v4 m3 => if (v4 : Int32) = 0 then (fX9_isUnitHere_50 N m3) else (xv (gi m3 a0 4) fun v5 => xv (v5 + 1 : Int32) fun v6 => xca (fX9_byteAt N a0 v6 m3) fun v8 m7 => xca (fX9_isSmall N v8 m7) fun v10 m9 => if (v10 : Int32) = 0 then (xv (gi m9 a0 4) fun v11 => xv (v11 + 1 : Int32) fun v12 => xca (fX9_byteAt N a0 v12 m9) fun v14 m13 => xca (fX9_isBig N v14 m13) fun v16 m15 => if (v16 : Int32) = 0 then (some (1, m15)) else (fX9_isUnitHere_50 N m15)) else (fX9_isUnitHere_50 N m9))
def fX9_letterHere (N : Nat → Nat) (a0 : Nat) (m0 : XM) : Option (Int32 × XM) :=
    xca (fX9_fine N a0 m0) fun v2 m1 => if (v2 : Int32) = 0 then (some (0, m1)) else (xca (fX9_isUnitHere N a0 m1) fun v4 m3 => if (v4 : Int32) = 0 then (xv (gi m3 a0 4) fun v13 => xca (fX9_wrong N a0 1 v13 m3) fun v15 m14 => xca (fX9_more N 0 v15 m14) fun v17 m16 => some (v17, m16)) else (xv (gi m3 a0 4) fun v5 => xv (v5 + 1 : Int32) fun v6 => xv (si m3 a0 4 v6) fun m7 => xv (gi m7 a0 4) fun v8 => xv (v8 - 1 : Int32) fun v9 => xca (fX9_byteAt N a0 v9 m7) fun v11 m10 => xv (v11 - 65 : Int32) fun v12 => some (v12, m10)))
def fX9_nameHere_51 (N : Nat → Nat) (q0 : Nat) (m0 : XM) : Option (Int32 × XM) :=
    xv (gi m0 q0 4) fun v1 => xca (fX9_wrong N q0 1 v1 m0) fun v3 m2 => xca (fX9_more N 0 v3 m2) fun v5 m4 => some (v5, m4)
def fX9_nameHere (N : Nat → Nat) (a0 : Nat) (m0 : XM) : Option (Int32 × XM) :=
    xca (fX9_fine N a0 m0) fun v2 m1 => if (v2 : Int32) = 0 then (some (0, m1)) else (xca (fX9_here N a0 m1) fun v4 m3 => xca (fX9_isSmall N v4 m3) fun v6 m5 => if (v6 : Int32) = 0 then (fX9_nameHere_51 N a0 m5) else (xv (gi m5 a0 4) fun v7 => xv (v7 + 1 : Int32) fun v8 => xca (fX9_byteAt N a0 v8 m5) fun v10 m9 => xca (fX9_isSmall N v10 m9) fun v12 m11 => if (v12 : Int32) = 0 then (xv (gi m11 a0 4) fun v13 => xv (v13 + 1 : Int32) fun v14 => xca (fX9_byteAt N a0 v14 m11) fun v16 m15 => xca (fX9_isBig N v16 m15) fun v18 m17 => if (v18 : Int32) = 0 then (xv (gi m17 a0 4) fun v19 => xv (v19 + 1 : Int32) fun v20 => xv (si m17 a0 4 v20) fun m21 => xv (gi m21 a0 4) fun v22 => xv (v22 - 1 : Int32) fun v23 => xca (fX9_byteAt N a0 v23 m21) fun v25 m24 => xv (v25 - 97 : Int32) fun v26 => some (v26, m24)) else (fX9_nameHere_51 N a0 m17)) else (fX9_nameHere_51 N a0 m11)))
def fX9_numberHere_104 (N : Nat → Nat) (q0 : Nat) (x2 : Int32) (m0 : XM) : Option (Int32 × XM) :=
    xca (fX9_fine N q0 m0) fun v2 m1 => if (v2 : Int32) = 0 then (some (0, m1)) else (some (x2, m1))
def fX9_numberHere_40 (N : Nat → Nat) : Nat → Nat → Int32 → Int32 → XM → Option (Int32 × XM)
  | 0, _, _, _, _ => none
  | n + 1, q0, x1, x2, m0 => xv (fun q0 x1 x2 m0 => fX9_numberHere_40 N n q0 x1 x2 m0) fun r40 =>
    xv (gi m0 q0 4) fun v1 => xca (fX9_byteAt N q0 v1 m0) fun v3 m2 => xca (fX9_isDigit N v3 m2) fun v5 m4 => if (v5 : Int32) = 0 then (if (x2 : Int32) ≤ 999 then (fX9_numberHere_104 N q0 x2 m4) else (xca (fX9_wrong N q0 2 x1 m4) fun v7 m6 => fX9_numberHere_104 N q0 x2 m6)) else (xv (10 * x2 : Int32) fun v8 => xv (gi m4 q0 4) fun v9 => xca (fX9_byteAt N q0 v9 m4) fun v11 m10 => xv (v8 + v11 : Int32) fun v12 => xv (v12 - 48 : Int32) fun v13 => xca (fX9_less N 1000 v13 m10) fun v15 m14 => xv (gi m14 q0 4) fun v16 => xv (v16 + 1 : Int32) fun v17 => xv (si m14 q0 4 v17) fun m18 => r40 q0 x1 v15 m18)
def fX9_numberHere (N : Nat → Nat) (a0 : Nat) (m0 : XM) : Option (Int32 × XM) :=
    xca (fX9_fine N a0 m0) fun v2 m1 => if (v2 : Int32) = 0 then (some (0, m1)) else (xca (fX9_here N a0 m1) fun v4 m3 => xca (fX9_isDigit N v4 m3) fun v6 m5 => if (v6 : Int32) = 0 then (xv (gi m5 a0 4) fun v8 => xca (fX9_wrong N a0 1 v8 m5) fun v10 m9 => xca (fX9_more N 0 v10 m9) fun v12 m11 => some (v12, m11)) else (xv (gi m5 a0 4) fun v7 => fX9_numberHere_40 N XF a0 v7 0 m5))
def fX9_adds (N : Nat → Nat) (a0 : Nat) (a1 : Int32) (a2 : Int32) (a3 : Int32) (a4 : Int32) (a5 : Int32) (m0 : XM) : Option (Int32 × XM) :=
    xgr m0 a0 10 fun u1 => xald N m0 u1 3 fun v2 => xv (6 * v2 : Int32) fun v3 => xv (1410 + v3 : Int32) fun v4 => xgr m0 a0 10 fun u5 => xast N m0 u5 v4 a1 fun m6 => xgr m6 a0 10 fun u7 => xv (v4 + 1 : Int32) fun v8 => xast N m6 u7 v8 a2 fun m9 => xgr m9 a0 10 fun u10 => xv (v4 + 2 : Int32) fun v11 => xast N m9 u10 v11 a3 fun m12 => xgr m12 a0 10 fun u13 => xv (v4 + 3 : Int32) fun v14 => xast N m12 u13 v14 a4 fun m15 => xgr m15 a0 10 fun u16 => xv (v4 + 4 : Int32) fun v17 => xast N m15 u16 v17 (-1) fun m18 => xgr m18 a0 10 fun u19 => xv (v4 + 5 : Int32) fun v20 => xast N m18 u19 v20 a5 fun m21 => xgr m21 a0 10 fun u22 => xald N m21 u22 3 fun v23 => xv (v23 + 1 : Int32) fun v24 => xast N m21 u22 3 v24 fun m25 => xgr m25 a0 10 fun u26 => xald N m25 u26 3 fun v27 => xv (v27 - 1 : Int32) fun v28 => some (v28, m25)
def fX9_canBeTerm_38 (N : Nat → Nat) (m0 : XM) : Option (Int32 × XM) :=
    some (1, m0)
def fX9_canBeTerm (N : Nat → Nat) (a0 : Nat) (m0 : XM) : Option (Int32 × XM) :=
    xca (fX9_here N a0 m0) fun v2 m1 => xca (fX9_isDigit N v2 m1) fun v4 m3 => if (v4 : Int32) = 0 then (xca (fX9_here N a0 m3) fun v6 m5 => xca (fX9_isBig N v6 m5) fun v8 m7 => if (v8 : Int32) = 0 then (xca (fX9_here N a0 m7) fun v10 m9 => if (v10 : Int32) = 40 then (fX9_canBeTerm_38 N m9) else (xca (fX9_isWord N a0 15 m9) fun v12 m11 => if (v12 : Int32) = 0 then (some (0, m11)) else (fX9_canBeTerm_38 N m11))) else (fX9_canBeTerm_38 N m7)) else (fX9_canBeTerm_38 N m3)
def fX9_term_43 (N : Nat → Nat) (R : Nat → Nat → Int32 → XM → Option (Int32 × XM)) (q0 : Nat) (x2 : Int32) (m0 : XM) : Option (Int32 × XM) :=
    xca (fX9_wrong N q0 1 x2 m0) fun v2 m1 => some (v2, m1)
def fX9_term_77 (N : Nat → Nat) (R : Nat → Nat → Int32 → XM → Option (Int32 × XM)) (q0 : Nat) (x2 : Int32) (s0 : Int32) (m0 : XM) : Option (Int32 × XM) :=
    xca (fX9_wrong N q0 3 x2 m0) fun v2 m1 => some (v2, m1)
def fX9_term_242 (N : Nat → Nat) (R : Nat → Nat → Int32 → XM → Option (Int32 × XM)) (x2 : Int32) (x3 : Int32) (x4 : Int32) (p0 : Nat) (s1 : Int32) (s2 : Int32) (m0 : XM) : Option (Int32 × XM) :=
    xca (fX9_adds N p0 s1 s2 x3 x4 x2 m0) fun v2 m1 => some (v2, m1)
def fX9_term_223 (N : Nat → Nat) (R : Nat → Nat → Int32 → XM → Option (Int32 × XM)) (q0 : Nat) (x1 : Int32) (x2 : Int32) (x3 : Int32) (x4 : Int32) (x5 : Int32) (m0 : XM) : Option (Int32 × XM) :=
    xca (fX9_fine N q0 m0) fun v2 m1 => if (v2 : Int32) = 0 then (some ((-1), m1)) else (if (x5 : Int32) = 0 then (fX9_term_242 N R x2 x3 x4 q0 x1 1 m1) else (fX9_term_242 N R x2 x3 x4 q0 x1 2 m1))
def fX9_term_50 (N : Nat → Nat) (R : Nat → Nat → Int32 → XM → Option (Int32 × XM)) (q0 : Nat) (x1 : Int32) (x2 : Int32) (m0 : XM) : Option (Int32 × XM) :=
    xv (gi m0 q0 17) fun v1 => if (v1 : Int32) = 8 then (xca (fX9_here N q0 m0) fun v38 m37 => xca (fX9_isDigit N v38 m37) fun v40 m39 => if (v40 : Int32) = 0 then (fX9_term_77 N R q0 x2 0 m39) else (xca (fX9_numberHere N q0 m39) fun v42 m41 => fX9_term_77 N R q0 x2 v42 m41)) else (xv (gi m0 q0 17) fun v2 => xv (v2 + 1 : Int32) fun v3 => xv (si m0 q0 17 v3) fun m4 => xca (fX9_here N q0 m4) fun v6 m5 => xca (fX9_isDigit N v6 m5) fun v8 m7 => if (v8 : Int32) = 0 then (xca (fX9_takesWord N q0 15 m7) fun v10 m9 => if (v10 : Int32) = 0 then (xca (fX9_takesSign N q0 40 m9) fun v12 m11 => if (v12 : Int32) = 0 then (xca (fX9_letterHere N q0 m11) fun v14 m13 => xcv (fX9_must N q0 46 m13) fun m15 => xca (fX9_nameHere N q0 m15) fun v17 m16 => xca (fX9_takesSign N q0 40 m16) fun v19 m18 => if (v19 : Int32) = 0 then (fX9_term_223 N R q0 x1 x2 v14 v17 v19 m18) else (xcv (fX9_must N q0 41 m18) fun m20 => fX9_term_223 N R q0 x1 x2 v14 v17 v19 m20)) else (xca (fX9_adds N q0 x1 4 (-1) 0 x2 m11) fun v22 m21 => xca (R 1 q0 0 m21) fun v24 m23 => xgr m23 q0 10 fun u25 => xv (6 * v22 : Int32) fun v26 => xv (1410 + v26 : Int32) fun v27 => xv (v27 + 2 : Int32) fun v28 => xast N m23 u25 v28 v24 fun m29 => xcv (fX9_must N q0 41 m29) fun m30 => some (v22, m30))) else (xca (fX9_adds N q0 x1 3 0 0 x2 m9) fun v32 m31 => some (v32, m31))) else (xca (fX9_numberHere N q0 m7) fun v34 m33 => xca (fX9_adds N q0 x1 0 v34 0 x2 m33) fun v36 m35 => some (v36, m35)))
def fX9_term (N : Nat → Nat) (R : Nat → Nat → Int32 → XM → Option (Int32 × XM)) (a0 : Nat) (a1 : Int32) (m0 : XM) : Option (Int32 × XM) :=
    xca (fX9_fine N a0 m0) fun v2 m1 => if (v2 : Int32) = 0 then (some ((-1), m1)) else (xca (fX9_here N a0 m1) fun v4 m3 => xv (gi m3 a0 4) fun v5 => xca (fX9_canBeTerm N a0 m3) fun v7 m6 => if (v7 : Int32) = 0 then (fX9_term_43 N R a0 v5 m6) else (xca (fX9_here N a0 m6) fun v9 m8 => xca (fX9_isBig N v9 m8) fun v11 m10 => if (v11 : Int32) = 0 then (fX9_term_50 N R a0 a1 v5 m10) else (xca (fX9_isUnitHere N a0 m10) fun v13 m12 => if (v13 : Int32) = 0 then (fX9_term_43 N R a0 v5 m12) else (fX9_term_50 N R a0 a1 v5 m12))))
def fX9_sumOn_43 (N : Nat → Nat) (R : Nat → Nat → Int32 → XM → Option (Int32 × XM)) (r9 : Nat → Int32 → Int32 → XM → Option (Int32 × XM)) (q0 : Nat) (x1 : Int32) (x2 : Int32) (m0 : XM) : Option (Int32 × XM) :=
    xca (fX9_here N q0 m0) fun v2 m1 => xv (gi m1 q0 4) fun v3 => xv (v3 + 1 : Int32) fun v4 => xv (si m1 q0 4 v4) fun m5 => xca (R 0 q0 v2 m5) fun v7 m6 => xca (fX9_fine N q0 m6) fun v9 m8 => if (v9 : Int32) = 0 then (some ((-1), m8)) else (xgr m8 q0 10 fun u10 => xv (6 * x2 : Int32) fun v11 => xv (1410 + v11 : Int32) fun v12 => xv (v12 + 4 : Int32) fun v13 => xast N m8 u10 v13 v7 fun m14 => r9 q0 x1 v7 m14)
def fX9_sumOn_9 (N : Nat → Nat) (R : Nat → Nat → Int32 → XM → Option (Int32 × XM)) : Nat → Nat → Int32 → Int32 → XM → Option (Int32 × XM)
  | 0, _, _, _, _ => none
  | n + 1, q0, x1, x2, m0 => xv (fun q0 x1 x2 m0 => fX9_sumOn_9 N R n q0 x1 x2 m0) fun r9 =>
    xca (fX9_fine N q0 m0) fun v2 m1 => if (v2 : Int32) = 0 then (some (x1, m1)) else (xca (fX9_here N q0 m1) fun v4 m3 => if (v4 : Int32) = 43 then (fX9_sumOn_43 N R r9 q0 x1 x2 m3) else (xca (fX9_here N q0 m3) fun v6 m5 => if (v6 : Int32) = 45 then (fX9_sumOn_43 N R r9 q0 x1 x2 m5) else (xca (fX9_here N q0 m5) fun v8 m7 => if (v8 : Int32) = 42 then (fX9_sumOn_43 N R r9 q0 x1 x2 m7) else (some (x1, m7)))))
def fX9_sumOn (N : Nat → Nat) (R : Nat → Nat → Int32 → XM → Option (Int32 × XM)) (a0 : Nat) (m0 : XM) : Option (Int32 × XM) :=
    xca (R 0 a0 43 m0) fun v2 m1 => fX9_sumOn_9 N R XF a0 v2 v2 m1
def gX9_term (N : Nat → Nat) : Nat → Nat → Nat → Int32 → XM → Option (Int32 × XM)
  | 0, _, _, _, _ => none
  | e + 1, t, q, x0, m0 => xv (fun t q x0 m0 => gX9_term N e t q x0 m0) fun R =>
    if t = 0 then fX9_term N R q x0 m0 else if t = 1 then fX9_sumOn N R q  m0 else none
def fX9_sum (N : Nat → Nat) (a0 : Nat) (m0 : XM) : Option (Int32 × XM) :=
    xv (si m0 a0 17 0) fun m1 => xca (gX9_term N 40 1 a0 0 m1) fun v3 m2 => some (v3, m2)
def fX9_act (N : Nat → Nat) (a0 : Nat) (a1 : Int32) (a2 : Int32) (a3 : Int32) (a4 : Int32) (m0 : XM) : Option (Int32 × XM) :=
    xgr m0 a0 10 fun u1 => xald N m0 u1 2 fun v2 => xv (4 * v2 : Int32) fun v3 => xv (530 + v3 : Int32) fun v4 => xgr m0 a0 10 fun u5 => xast N m0 u5 v4 a1 fun m6 => xgr m6 a0 10 fun u7 => xv (v4 + 1 : Int32) fun v8 => xast N m6 u7 v8 a2 fun m9 => xgr m9 a0 10 fun u10 => xv (v4 + 2 : Int32) fun v11 => xast N m9 u10 v11 a3 fun m12 => xgr m12 a0 10 fun u13 => xv (v4 + 3 : Int32) fun v14 => xast N m12 u13 v14 a4 fun m15 => xgr m15 a0 10 fun u16 => xald N m15 u16 2 fun v17 => xv (v17 + 1 : Int32) fun v18 => xast N m15 u16 2 v18 fun m19 => xgr m19 a0 10 fun u20 => xald N m19 u20 2 fun v21 => xv (v21 - 1 : Int32) fun v22 => some (v22, m19)
def fX9_setHere (N : Nat → Nat) (a0 : Nat) (m0 : XM) : Option (Int32 × XM) :=
    xca (fX9_here N a0 m0) fun v2 m1 => xv (gi m1 a0 4) fun v3 => xca (fX9_letterHere N a0 m1) fun v5 m4 => xcv (fX9_must N a0 46 m4) fun m6 => xca (fX9_nameHere N a0 m6) fun v8 m7 => xcv (fX9_must N a0 61 m7) fun m9 => xca (fX9_sum N a0 m9) fun v11 m10 => xcv (fX9_must N a0 59 m10) fun m12 => xca (fX9_fine N a0 m12) fun v14 m13 => if (v14 : Int32) = 0 then (some ((-1), m13)) else (xca (fX9_act N a0 v5 v8 v11 v3 m13) fun v16 m15 => some (v16, m15))
def fX9_doHere (N : Nat → Nat) (a0 : Nat) (m0 : XM) : Option (Int32 × XM) :=
    xca (fX9_here N a0 m0) fun v2 m1 => xv (gi m1 a0 4) fun v3 => xca (fX9_sum N a0 m1) fun v5 m4 => xcv (fX9_must N a0 59 m4) fun m6 => xca (fX9_fine N a0 m6) fun v8 m7 => if (v8 : Int32) = 0 then (some ((-1), m7)) else (xca (fX9_act N a0 (-1) (-1) v5 v3 m7) fun v10 m9 => some (v10, m9))
def fX9_addsMember (N : Nat → Nat) (a0 : Nat) (a1 : Int32) (a2 : Int32) (a3 : Int32) (a4 : Int32) (a5 : Int32) (a6 : Int32) (m0 : XM) : Option XM :=
    xgr m0 a0 10 fun u1 => xald N m0 u1 1 fun v2 => xv (5 * v2 : Int32) fun v3 => xv (110 + v3 : Int32) fun v4 => xgr m0 a0 10 fun u5 => xast N m0 u5 v4 a2 fun m6 => xgr m6 a0 10 fun u7 => xv (v4 + 1 : Int32) fun v8 => xast N m6 u7 v8 a3 fun m9 => xgr m9 a0 10 fun u10 => xv (v4 + 2 : Int32) fun v11 => xast N m9 u10 v11 a4 fun m12 => xgr m12 a0 10 fun u13 => xv (v4 + 3 : Int32) fun v14 => xast N m12 u13 v14 a5 fun m15 => xgr m15 a0 10 fun u16 => xv (v4 + 4 : Int32) fun v17 => xast N m15 u16 v17 a6 fun m18 => xgr m18 a0 10 fun u19 => xald N m18 u19 1 fun v20 => xv (v20 + 1 : Int32) fun v21 => xast N m18 u19 1 v21 fun m22 => xv (15 * a1 : Int32) fun v23 => xv (5 + v23 : Int32) fun v24 => xgr m22 a0 10 fun u25 => xv (v24 + 3 : Int32) fun v26 => xgr m22 a0 10 fun u27 => xv (v24 + 2 : Int32) fun v28 => xald N m22 u27 v28 fun v29 => xv (v26 + v29 : Int32) fun v30 => xast N m22 u25 v30 v2 fun m31 => xgr m31 a0 10 fun u32 => xv (v24 + 2 : Int32) fun v33 => xald N m31 u32 v33 fun v34 => xv (v34 + 1 : Int32) fun v35 => xast N m31 u32 v33 v35 fun m36 => some m36
def fX9_freshName (N : Nat → Nat) (a0 : Nat) (a1 : Int32) (m0 : XM) : Option (Int32 × XM) :=
    xca (fX9_fine N a0 m0) fun v2 m1 => if (v2 : Int32) = 0 then (some (0, m1)) else (xca (fX9_here N a0 m1) fun v4 m3 => xv (gi m3 a0 4) fun v5 => xca (fX9_nameHere N a0 m3) fun v7 m6 => xca (fX9_fine N a0 m6) fun v9 m8 => if (v9 : Int32) = 0 then (some (v7, m8)) else (xgr m8 a0 10 fun u10 => xca (fX9_named N u10 a1 v7 m8) fun v12 m11 => if (v12 : Int32) = (-1) then (some (v7, m11)) else (xca (fX9_wrong N a0 4 v5 m11) fun v14 m13 => some (v7, m13))))
def fX9_function_100 (N : Nat → Nat) (q0 : Nat) (x1 : Int32) (x2 : Int32) (x3 : Int32) (x4 : Int32) (m0 : XM) : Option XM :=
    xca (fX9_sum N q0 m0) fun v2 m1 => xcv (fX9_must N q0 59 m1) fun m3 => xcv (fX9_must N q0 125 m3) fun m4 => xca (fX9_fine N q0 m4) fun v6 m5 => if (v6 : Int32) = 0 then (some m5) else (xcv (fX9_addsMember N q0 x1 4 x2 v2 x3 x4 m5) fun m7 => some m7)
def fX9_function_74 (N : Nat → Nat) (q0 : Nat) (x1 : Int32) (x2 : Int32) (x3 : Int32) (x4 : Int32) (m0 : XM) : Option XM :=
    xca (fX9_fine N q0 m0) fun v2 m1 => if (v2 : Int32) = 0 then (fX9_function_100 N q0 x1 x2 x3 x4 m1) else (xca (fX9_takesWord N q0 14 m1) fun v4 m3 => if (v4 : Int32) = 0 then (xv (gi m3 q0 4) fun v5 => xca (fX9_wrong N q0 1 v5 m3) fun v7 m6 => fX9_function_100 N q0 x1 x2 x3 x4 m6) else (fX9_function_100 N q0 x1 x2 x3 x4 m3))
def fX9_function_22 (N : Nat → Nat) : Nat → Nat → Int32 → Int32 → Int32 → Int32 → XM → Option XM
  | 0, _, _, _, _, _, _ => none
  | n + 1, q0, x1, x2, x3, x4, m0 => xv (fun q0 x1 x2 x3 x4 m0 => fX9_function_22 N n q0 x1 x2 x3 x4 m0) fun r22 =>
    xca (fX9_fine N q0 m0) fun v2 m1 => if (v2 : Int32) = 0 then (fX9_function_74 N q0 x1 x2 x3 x4 m1) else (xca (fX9_here N q0 m1) fun v4 m3 => xca (fX9_isBig N v4 m3) fun v6 m5 => if (v6 : Int32) = 0 then (fX9_function_74 N q0 x1 x2 x3 x4 m5) else (xca (fX9_isUnitHere N q0 m5) fun v8 m7 => if (v8 : Int32) = 0 then (fX9_function_74 N q0 x1 x2 x3 x4 m7) else (if (x3 : Int32) = 4 then (xv (gi m7 q0 4) fun v12 => xca (fX9_wrong N q0 3 v12 m7) fun v14 m13 => some m13) else (xca (fX9_setHere N q0 m7) fun v10 m9 => xv (x3 + 1) fun v11 => r22 q0 x1 x2 v11 x4 m9))))
def fX9_function (N : Nat → Nat) (a0 : Nat) (a1 : Int32) (m0 : XM) : Option XM :=
    xca (fX9_freshName N a0 a1 m0) fun v2 m1 => xcv (fX9_must N a0 123 m1) fun m3 => xgr m3 a0 10 fun u4 => xald N m3 u4 2 fun v5 => fX9_function_22 N XF a0 a1 v2 0 v5 m3
def fX9_members_148 (N : Nat → Nat) (m0 : XM) : Option XM :=
    some m0
def fX9_members_211 (N : Nat → Nat) (m0 : XM) : Option XM :=
    some m0
def fX9_members_184 (N : Nat → Nat) (q0 : Nat) (x1 : Int32) (x4 : Int32) (s0 : Int32) (m0 : XM) : Option XM :=
    xcv (fX9_must N q0 59 m0) fun m1 => xca (fX9_fine N q0 m1) fun v3 m2 => if (v3 : Int32) = 0 then (fX9_members_211 N m2) else (xcv (fX9_addsMember N q0 x1 1 x4 s0 0 0 m2) fun m4 => fX9_members_211 N m4)
def fX9_members_247 (N : Nat → Nat) (m0 : XM) : Option XM :=
    some m0
def fX9_members_62 (N : Nat → Nat) (q0 : Nat) (x1 : Int32) (x2 : Int32) (s0 : Int32) (m0 : XM) : Option XM :=
    if (s0 : Int32) = 0 then (xv (gi m0 q0 4) fun v41 => xca (fX9_wrong N q0 1 v41 m0) fun v43 m42 => some m42) else (if (x2 : Int32) = 12 then (xv (gi m0 q0 4) fun v38 => xca (fX9_wrong N q0 3 v38 m0) fun v40 m39 => some m39) else (xca (fX9_takesWord N q0 10 m0) fun v2 m1 => if (v2 : Int32) = 0 then (xca (fX9_takesWord N q0 11 m1) fun v4 m3 => if (v4 : Int32) = 0 then (xca (fX9_takesWord N q0 12 m3) fun v6 m5 => if (v6 : Int32) = 0 then (xca (fX9_takesWord N q0 13 m5) fun v8 m7 => if (v8 : Int32) = 0 then (xca (fX9_setHere N q0 m7) fun v10 m9 => xca (fX9_fine N q0 m9) fun v12 m11 => if (v12 : Int32) = 0 then (some m11) else (xgr m11 q0 10 fun u13 => xca (fX9_ofAct N u13 v10 1 m11) fun v15 m14 => xcv (fX9_addsMember N q0 x1 3 v15 v10 0 0 m14) fun m16 => some m16)) else (xcv (fX9_function N q0 x1 m7) fun m17 => some m17)) else (xca (fX9_doHere N q0 m5) fun v19 m18 => xca (fX9_fine N q0 m18) fun v21 m20 => if (v21 : Int32) = 0 then (fX9_members_247 N m20) else (xcv (fX9_addsMember N q0 x1 2 (-1) v19 0 0 m20) fun m22 => fX9_members_247 N m22))) else (xca (fX9_freshName N q0 x1 m3) fun v24 m23 => xca (fX9_takesSign N q0 61 m23) fun v26 m25 => if (v26 : Int32) = 0 then (fX9_members_184 N q0 x1 v24 (-1) m25) else (xca (fX9_sum N q0 m25) fun v28 m27 => fX9_members_184 N q0 x1 v24 v28 m27))) else (xca (fX9_freshName N q0 x1 m1) fun v30 m29 => xcv (fX9_must N q0 61 m29) fun m31 => xca (fX9_numberHere N q0 m31) fun v33 m32 => xcv (fX9_must N q0 59 m32) fun m34 => xca (fX9_fine N q0 m34) fun v36 m35 => if (v36 : Int32) = 0 then (fX9_members_148 N m35) else (xcv (fX9_addsMember N q0 x1 0 v30 v33 0 0 m35) fun m37 => fX9_members_148 N m37))))
def fX9_members_57 (N : Nat → Nat) (q0 : Nat) (x1 : Int32) (x2 : Int32) (m0 : XM) : Option XM :=
    fX9_members_62 N q0 x1 x2 1 m0
def fX9_members (N : Nat → Nat) (a0 : Nat) (a1 : Int32) (m0 : XM) : Option XM :=
    xgr m0 a0 10 fun u1 => xv (15 * a1 : Int32) fun v2 => xv (5 + v2 : Int32) fun v3 => xv (v3 + 2 : Int32) fun v4 => xald N m0 u1 v4 fun v5 => xca (fX9_isWord N a0 10 m0) fun v7 m6 => if (v7 : Int32) = 0 then (xca (fX9_isWord N a0 11 m6) fun v9 m8 => if (v9 : Int32) = 0 then (xca (fX9_isWord N a0 12 m8) fun v11 m10 => if (v11 : Int32) = 0 then (xca (fX9_isWord N a0 13 m10) fun v13 m12 => if (v13 : Int32) = 0 then (xca (fX9_isUnitHere N a0 m12) fun v15 m14 => if (v15 : Int32) = 0 then (fX9_members_62 N a0 a1 v5 0 m14) else (fX9_members_57 N a0 a1 v5 m14)) else (fX9_members_57 N a0 a1 v5 m12)) else (fX9_members_57 N a0 a1 v5 m10)) else (fX9_members_57 N a0 a1 v5 m8)) else (fX9_members_57 N a0 a1 v5 m6)
def fX9_unitHere_248 (N : Nat → Nat) (q0 : Nat) (m0 : XM) : Option XM :=
    xcv (fX9_must N q0 125 m0) fun m1 => some m1
def fX9_unitHere_223 (N : Nat → Nat) : Nat → Nat → Int32 → XM → Option XM
  | 0, _, _, _ => none
  | n + 1, q0, x5, m0 => xv (fun q0 x5 m0 => fX9_unitHere_223 N n q0 x5 m0) fun r223 =>
    xca (fX9_fine N q0 m0) fun v2 m1 => if (v2 : Int32) = 0 then (fX9_unitHere_248 N q0 m1) else (xca (fX9_here N q0 m1) fun v4 m3 => if (v4 : Int32) = 125 then (fX9_unitHere_248 N q0 m3) else (xcv (fX9_members N q0 x5 m3) fun m5 => r223 q0 x5 m5))
def fX9_unitHere_147 (N : Nat → Nat) (q0 : Nat) (x3 : Int32) (x4 : Int32) (m0 : XM) : Option XM :=
    xcv (fX9_must N q0 123 m0) fun m1 => xca (fX9_fine N q0 m1) fun v3 m2 => if (v3 : Int32) = 0 then (some m2) else (xgr m2 q0 10 fun u4 => xald N m2 u4 0 fun v5 => xgr m2 q0 10 fun u6 => xv (15 * v5 : Int32) fun v7 => xv (5 + v7 : Int32) fun v8 => xast N m2 u6 v8 x3 fun m9 => xgr m9 q0 10 fun u10 => xv (15 * v5 : Int32) fun v11 => xv (5 + v11 : Int32) fun v12 => xv (v12 + 1 : Int32) fun v13 => xast N m9 u10 v13 x4 fun m14 => xgr m14 q0 10 fun u15 => xv (15 * v5 : Int32) fun v16 => xv (5 + v16 : Int32) fun v17 => xv (v17 + 2 : Int32) fun v18 => xast N m14 u15 v18 0 fun m19 => xgr m19 q0 10 fun u20 => xald N m19 u20 0 fun v21 => xv (v21 + 1 : Int32) fun v22 => xast N m19 u20 0 v22 fun m23 => fX9_unitHere_223 N XF q0 v5 m23)
def fX9_unitHere_124 (N : Nat → Nat) (q0 : Nat) (x3 : Int32) (x5 : Int32) (s0 : Int32) (m0 : XM) : Option XM :=
    xca (fX9_fine N q0 m0) fun v2 m1 => if (v2 : Int32) = 0 then (fX9_unitHere_147 N q0 x3 s0 m1) else (if (s0 : Int32) = (-1) then (xca (fX9_wrong N q0 4 x5 m1) fun v4 m3 => fX9_unitHere_147 N q0 x3 s0 m3) else (fX9_unitHere_147 N q0 x3 s0 m1))
def fX9_unitHere_75 (N : Nat → Nat) (q0 : Nat) (x3 : Int32) (m0 : XM) : Option XM :=
    xca (fX9_takesSign N q0 58 m0) fun v2 m1 => if (v2 : Int32) = 0 then (fX9_unitHere_147 N q0 x3 (-1) m1) else (xca (fX9_here N q0 m1) fun v4 m3 => xv (gi m3 q0 4) fun v5 => xca (fX9_letterHere N q0 m3) fun v7 m6 => xca (fX9_fine N q0 m6) fun v9 m8 => if (v9 : Int32) = 0 then (fX9_unitHere_124 N q0 x3 v5 (-1) m8) else (xgr m8 q0 10 fun u10 => xca (fX9_unitBy N u10 v7 m8) fun v12 m11 => fX9_unitHere_124 N q0 x3 v5 v12 m11))
def fX9_unitHere (N : Nat → Nat) (a0 : Nat) (m0 : XM) : Option XM :=
    xv (gi m0 a0 4) fun v1 => xgr m0 a0 10 fun u2 => xald N m0 u2 0 fun v3 => if (v3 : Int32) = 7 then (xca (fX9_wrong N a0 3 v1 m0) fun v20 m19 => some m19) else (xv (gi m0 a0 4) fun v4 => xv (v4 + 4 : Int32) fun v5 => xv (si m0 a0 4 v5) fun m6 => xca (fX9_here N a0 m6) fun v8 m7 => xv (gi m7 a0 4) fun v9 => xca (fX9_letterHere N a0 m7) fun v11 m10 => xca (fX9_fine N a0 m10) fun v13 m12 => if (v13 : Int32) = 0 then (fX9_unitHere_75 N a0 v11 m12) else (xgr m12 a0 10 fun u14 => xca (fX9_unitBy N u14 v11 m12) fun v16 m15 => if (v16 : Int32) = (-1) then (fX9_unitHere_75 N a0 v11 m15) else (xca (fX9_wrong N a0 4 v9 m15) fun v18 m17 => fX9_unitHere_75 N a0 v11 m17)))
def fX9_main_132 (N : Nat → Nat) (r6 : Nat → XM → Option XM) (q0 : Nat) (m0 : XM) : Option XM :=
    r6 q0 m0
def fX9_main_97 (N : Nat → Nat) (r6 : Nat → XM → Option XM) (q0 : Nat) (s0 : Int32) (m0 : XM) : Option XM :=
    xca (fX9_fine N q0 m0) fun v2 m1 => if (v2 : Int32) = 0 then (some m1) else (xgr m1 q0 10 fun u3 => xgr m1 q0 10 fun u4 => xald N m1 u4 4 fun v5 => xv (3810 + v5 : Int32) fun v6 => xast N m1 u3 v6 s0 fun m7 => xgr m7 q0 10 fun u8 => xald N m7 u8 4 fun v9 => xv (v9 + 1 : Int32) fun v10 => xast N m7 u8 4 v10 fun m11 => fX9_main_132 N r6 q0 m11)
def fX9_main_53 (N : Nat → Nat) (r6 : Nat → XM → Option XM) (q0 : Nat) (m0 : XM) : Option XM :=
    xgr m0 q0 10 fun u1 => xald N m0 u1 4 fun v2 => if (v2 : Int32) = 10 then (xv (gi m0 q0 4) fun v9 => xca (fX9_wrong N q0 3 v9 m0) fun v11 m10 => fX9_main_132 N r6 q0 m10) else (xca (fX9_takesWord N q0 12 m0) fun v4 m3 => if (v4 : Int32) = 0 then (xca (fX9_setHere N q0 m3) fun v6 m5 => fX9_main_97 N r6 q0 v6 m5) else (xca (fX9_doHere N q0 m3) fun v8 m7 => fX9_main_97 N r6 q0 v8 m7))
def fX9_main_135 (N : Nat → Nat) (q0 : Nat) (m0 : XM) : Option XM :=
    xcv (fX9_must N q0 125 m0) fun m1 => some m1
def fX9_main_6 (N : Nat → Nat) : Nat → Nat → XM → Option XM
  | 0, _, _ => none
  | n + 1, q0, m0 => xv (fun q0 m0 => fX9_main_6 N n q0 m0) fun r6 =>
    xca (fX9_fine N q0 m0) fun v2 m1 => if (v2 : Int32) = 0 then (fX9_main_135 N q0 m1) else (xca (fX9_here N q0 m1) fun v4 m3 => if (v4 : Int32) = 125 then (fX9_main_135 N q0 m3) else (xca (fX9_isWord N q0 12 m3) fun v6 m5 => if (v6 : Int32) = 0 then (xca (fX9_isUnitHere N q0 m5) fun v8 m7 => if (v8 : Int32) = 0 then (xv (gi m7 q0 4) fun v9 => xca (fX9_wrong N q0 1 v9 m7) fun v11 m10 => fX9_main_132 N r6 q0 m10) else (fX9_main_53 N r6 q0 m7)) else (fX9_main_53 N r6 q0 m5)))
def fX9_main (N : Nat → Nat) (a0 : Nat) (m0 : XM) : Option XM :=
    xcv (fX9_must N a0 123 m0) fun m1 => fX9_main_6 N XF a0 m1
def fX9_missing_148 (N : Nat → Nat) (r4 : Nat → Int32 → Int32 → XM → Option (Int32 × XM)) (q0 : Nat) (x1 : Int32) (x2 : Int32) (m0 : XM) : Option (Int32 × XM) :=
    xv (x2 + 1) fun v1 => r4 q0 x1 v1 m0
def fX9_missing_145 (N : Nat → Nat) (r4 : Nat → Int32 → Int32 → XM → Option (Int32 × XM)) (q0 : Nat) (x2 : Int32) (x4 : Int32) (m0 : XM) : Option (Int32 × XM) :=
    fX9_missing_148 N r4 q0 x4 x2 m0
def fX9_missing_142 (N : Nat → Nat) (r4 : Nat → Int32 → Int32 → XM → Option (Int32 × XM)) (q0 : Nat) (x1 : Int32) (x2 : Int32) (x4 : Int32) (s0 : Int32) (s1 : Int32) (m0 : XM) : Option (Int32 × XM) :=
    if (s0 : Int32) = s1 then (fX9_missing_148 N r4 q0 x1 x2 m0) else (fX9_missing_145 N r4 q0 x2 x4 m0)
def fX9_missing_132 (N : Nat → Nat) (r4 : Nat → Int32 → Int32 → XM → Option (Int32 × XM)) (q0 : Nat) (x1 : Int32) (x2 : Int32) (x3 : Int32) (x4 : Int32) (s0 : Int32) (m0 : XM) : Option (Int32 × XM) :=
    if (x3 : Int32) = 2 then (fX9_missing_142 N r4 q0 x1 x2 x4 s0 1 m0) else (fX9_missing_142 N r4 q0 x1 x2 x4 s0 0 m0)
def fX9_missing_105 (N : Nat → Nat) (r4 : Nat → Int32 → Int32 → XM → Option (Int32 × XM)) (q0 : Nat) (x1 : Int32) (x2 : Int32) (x3 : Int32) (x4 : Int32) (s0 : Int32) (m0 : XM) : Option (Int32 × XM) :=
    if (s0 : Int32) = (-1) then (fX9_missing_145 N r4 q0 x2 x4 m0) else (xgr m0 q0 10 fun u1 => xca (fX9_ofMember N u1 s0 0 m0) fun v3 m2 => if (v3 : Int32) = 4 then (fX9_missing_132 N r4 q0 x1 x2 x3 x4 1 m2) else (fX9_missing_132 N r4 q0 x1 x2 x3 x4 0 m2))
def fX9_missing_59 (N : Nat → Nat) (r4 : Nat → Int32 → Int32 → XM → Option (Int32 × XM)) (q0 : Nat) (x1 : Int32) (x2 : Int32) (x3 : Int32) (x4 : Int32) (m0 : XM) : Option (Int32 × XM) :=
    xgr m0 q0 10 fun u1 => xgr m0 q0 10 fun u2 => xca (fX9_ofTerm N u2 x2 2 m0) fun v4 m3 => xca (fX9_unitBy N u1 v4 m3) fun v6 m5 => if (v6 : Int32) = (-1) then (fX9_missing_105 N r4 q0 x1 x2 x3 x4 (-1) m5) else (xgr m5 q0 10 fun u7 => xgr m5 q0 10 fun u8 => xca (fX9_ofTerm N u8 x2 3 m5) fun v10 m9 => xca (fX9_named N u7 v6 v10 m9) fun v12 m11 => fX9_missing_105 N r4 q0 x1 x2 x3 x4 v12 m11)
def fX9_missing_45 (N : Nat → Nat) (r4 : Nat → Int32 → Int32 → XM → Option (Int32 × XM)) (q0 : Nat) (x1 : Int32) (x2 : Int32) (x3 : Int32) (x4 : Int32) (m0 : XM) : Option (Int32 × XM) :=
    if (x1 : Int32) = (-1) then (fX9_missing_59 N r4 q0 x1 x2 x3 x4 m0) else (if (x4 : Int32) ≤ x1 then (fX9_missing_59 N r4 q0 x1 x2 x3 x4 m0) else (fX9_missing_148 N r4 q0 x1 x2 m0))
def fX9_missing_272 (N : Nat → Nat) (r156 : Nat → Int32 → Int32 → XM → Option (Int32 × XM)) (q0 : Nat) (x1 : Int32) (x2 : Int32) (m0 : XM) : Option (Int32 × XM) :=
    xv (x2 + 1) fun v1 => r156 q0 x1 v1 m0
def fX9_missing_270 (N : Nat → Nat) (r156 : Nat → Int32 → Int32 → XM → Option (Int32 × XM)) (q0 : Nat) (x2 : Int32) (x3 : Int32) (m0 : XM) : Option (Int32 × XM) :=
    fX9_missing_272 N r156 q0 x3 x2 m0
def fX9_missing_248 (N : Nat → Nat) (r156 : Nat → Int32 → Int32 → XM → Option (Int32 × XM)) (q0 : Nat) (x1 : Int32) (x2 : Int32) (x3 : Int32) (s0 : Int32) (m0 : XM) : Option (Int32 × XM) :=
    if (s0 : Int32) = (-1) then (fX9_missing_270 N r156 q0 x2 x3 m0) else (xgr m0 q0 10 fun u1 => xca (fX9_ofMember N u1 s0 0 m0) fun v3 m2 => if (v3 : Int32) = 1 then (fX9_missing_272 N r156 q0 x1 x2 m2) else (fX9_missing_270 N r156 q0 x2 x3 m2))
def fX9_missing_202 (N : Nat → Nat) (r156 : Nat → Int32 → Int32 → XM → Option (Int32 × XM)) (q0 : Nat) (x1 : Int32) (x2 : Int32) (x3 : Int32) (m0 : XM) : Option (Int32 × XM) :=
    xgr m0 q0 10 fun u1 => xgr m0 q0 10 fun u2 => xca (fX9_ofAct N u2 x2 0 m0) fun v4 m3 => xca (fX9_unitBy N u1 v4 m3) fun v6 m5 => if (v6 : Int32) = (-1) then (fX9_missing_248 N r156 q0 x1 x2 x3 (-1) m5) else (xgr m5 q0 10 fun u7 => xgr m5 q0 10 fun u8 => xca (fX9_ofAct N u8 x2 1 m5) fun v10 m9 => xca (fX9_named N u7 v6 v10 m9) fun v12 m11 => fX9_missing_248 N r156 q0 x1 x2 x3 v12 m11)
def fX9_missing_156 (N : Nat → Nat) : Nat → Nat → Int32 → Int32 → XM → Option (Int32 × XM)
  | 0, _, _, _, _ => none
  | n + 1, q0, x1, x2, m0 => xv (fun q0 x1 x2 m0 => fX9_missing_156 N n q0 x1 x2 m0) fun r156 =>
    xgr m0 q0 10 fun u1 => xald N m0 u1 2 fun v2 => if v2 ≤ (x2 : Int32) then (some (x1, m0)) else (xgr m0 q0 10 fun u3 => xca (fX9_ofAct N u3 x2 3 m0) fun v5 m4 => xgr m4 q0 10 fun u6 => xca (fX9_ofAct N u6 x2 0 m4) fun v8 m7 => if (v8 : Int32) = (-1) then (fX9_missing_272 N r156 q0 x1 x2 m7) else (if (x1 : Int32) = (-1) then (fX9_missing_202 N r156 q0 x1 x2 v5 m7) else (if (v5 : Int32) ≤ x1 then (fX9_missing_202 N r156 q0 x1 x2 v5 m7) else (fX9_missing_272 N r156 q0 x1 x2 m7))))
def fX9_missing_4 (N : Nat → Nat) : Nat → Nat → Int32 → Int32 → XM → Option (Int32 × XM)
  | 0, _, _, _, _ => none
  | n + 1, q0, x1, x2, m0 => xv (fun q0 x1 x2 m0 => fX9_missing_4 N n q0 x1 x2 m0) fun r4 =>
    xgr m0 q0 10 fun u1 => xald N m0 u1 3 fun v2 => if v2 ≤ (x2 : Int32) then (fX9_missing_156 N XF q0 x1 0 m0) else (xgr m0 q0 10 fun u3 => xca (fX9_ofTerm N u3 x2 1 m0) fun v5 m4 => xgr m4 q0 10 fun u6 => xca (fX9_ofTerm N u6 x2 5 m4) fun v8 m7 => if (v5 : Int32) = 1 then (fX9_missing_45 N r4 q0 x1 x2 v5 v8 m7) else (if (v5 : Int32) = 2 then (fX9_missing_45 N r4 q0 x1 x2 v5 v8 m7) else (fX9_missing_148 N r4 q0 x1 x2 m7)))
def fX9_missing (N : Nat → Nat) (a0 : Nat) (m0 : XM) : Option (Int32 × XM) :=
    fX9_missing_4 N XF a0 (-1) 0 m0
def fX9_binds_97 (N : Nat → Nat) (r2 : Nat → Int32 → XM → Option XM) (q0 : Nat) (x1 : Int32) (m0 : XM) : Option XM :=
    xv (x1 + 1) fun v1 => r2 q0 v1 m0
def fX9_binds_43 (N : Nat → Nat) (r2 : Nat → Int32 → XM → Option XM) (q0 : Nat) (x1 : Int32) (x2 : Int32) (m0 : XM) : Option XM :=
    xgr m0 q0 10 fun u1 => xv (x2 + 2 : Int32) fun v2 => xgr m0 q0 10 fun u3 => xgr m0 q0 10 fun u4 => xv (x2 + 2 : Int32) fun v5 => xald N m0 u4 v5 fun v6 => xca (fX9_unitBy N u3 v6 m0) fun v8 m7 => xast N m7 u1 v2 v8 fun m9 => xgr m9 q0 10 fun u10 => xv (x2 + 3 : Int32) fun v11 => xgr m9 q0 10 fun u12 => xgr m9 q0 10 fun u13 => xv (x2 + 2 : Int32) fun v14 => xald N m9 u13 v14 fun v15 => xgr m9 q0 10 fun u16 => xv (x2 + 3 : Int32) fun v17 => xald N m9 u16 v17 fun v18 => xca (fX9_named N u12 v15 v18 m9) fun v20 m19 => xast N m19 u10 v11 v20 fun m21 => fX9_binds_97 N r2 q0 x1 m21
def fX9_binds_184 (N : Nat → Nat) (r105 : Nat → Int32 → XM → Option XM) (q0 : Nat) (x1 : Int32) (m0 : XM) : Option XM :=
    xv (x1 + 1) fun v1 => r105 q0 v1 m0
def fX9_binds_105 (N : Nat → Nat) : Nat → Nat → Int32 → XM → Option XM
  | 0, _, _, _ => none
  | n + 1, q0, x1, m0 => xv (fun q0 x1 m0 => fX9_binds_105 N n q0 x1 m0) fun r105 =>
    xgr m0 q0 10 fun u1 => xald N m0 u1 2 fun v2 => if v2 ≤ (x1 : Int32) then (some m0) else (xv (4 * x1 : Int32) fun v3 => xv (530 + v3 : Int32) fun v4 => xgr m0 q0 10 fun u5 => xald N m0 u5 v4 fun v6 => if (v6 : Int32) = (-1) then (fX9_binds_184 N r105 q0 x1 m0) else (xgr m0 q0 10 fun u7 => xgr m0 q0 10 fun u8 => xgr m0 q0 10 fun u9 => xald N m0 u9 v4 fun v10 => xca (fX9_unitBy N u8 v10 m0) fun v12 m11 => xast N m11 u7 v4 v12 fun m13 => xgr m13 q0 10 fun u14 => xv (v4 + 1 : Int32) fun v15 => xgr m13 q0 10 fun u16 => xgr m13 q0 10 fun u17 => xald N m13 u17 v4 fun v18 => xgr m13 q0 10 fun u19 => xv (v4 + 1 : Int32) fun v20 => xald N m13 u19 v20 fun v21 => xca (fX9_named N u16 v18 v21 m13) fun v23 m22 => xast N m22 u14 v15 v23 fun m24 => fX9_binds_184 N r105 q0 x1 m24))
def fX9_binds_2 (N : Nat → Nat) : Nat → Nat → Int32 → XM → Option XM
  | 0, _, _, _ => none
  | n + 1, q0, x1, m0 => xv (fun q0 x1 m0 => fX9_binds_2 N n q0 x1 m0) fun r2 =>
    xgr m0 q0 10 fun u1 => xald N m0 u1 3 fun v2 => if v2 ≤ (x1 : Int32) then (fX9_binds_105 N XF q0 0 m0) else (xv (6 * x1 : Int32) fun v3 => xv (1410 + v3 : Int32) fun v4 => xgr m0 q0 10 fun u5 => xv (v4 + 1 : Int32) fun v6 => xald N m0 u5 v6 fun v7 => if (v7 : Int32) = 1 then (fX9_binds_43 N r2 q0 x1 v4 m0) else (if (v7 : Int32) = 2 then (fX9_binds_43 N r2 q0 x1 v4 m0) else (fX9_binds_97 N r2 q0 x1 m0)))
def fX9_binds (N : Nat → Nat) (a0 : Nat) (m0 : XM) : Option XM :=
    fX9_binds_2 N XF a0 0 m0
def fX9_text_227 (N : Nat → Nat) : Nat → Nat → Int32 → XM → Option (Int32 × XM)
  | 0, _, _, _ => none
  | n + 1, q0, x3, m0 => xv (fun q0 x3 m0 => fX9_text_227 N n q0 x3 m0) fun r227 =>
    if 84 ≤ (x3 : Int32) then (xv (si m0 q0 15 0) fun m1 => xv (si m1 q0 16 0) fun m2 => xgr m2 q0 9 fun u3 => xald N m2 u3 0 fun v4 => some (v4, m2)) else (xgr m0 q0 11 fun u5 => xzst N m0 u5 x3 0 fun m6 => xv (x3 + 1) fun v7 => r227 q0 v7 m6)
def fX9_text_200 (N : Nat → Nat) : Nat → Nat → Int32 → XM → Option (Int32 × XM)
  | 0, _, _, _ => none
  | n + 1, q0, x3, m0 => xv (fun q0 x3 m0 => fX9_text_200 N n q0 x3 m0) fun r200 =>
    if 3820 ≤ (x3 : Int32) then (fX9_text_227 N XF q0 0 m0) else (xgr m0 q0 9 fun u1 => xgr m0 q0 10 fun u2 => xald N m0 u2 x3 fun v3 => xast N m0 u1 x3 v3 fun m4 => xv (x3 + 1) fun v5 => r200 q0 v5 m4)
def fX9_text_171 (N : Nat → Nat) (q0 : Nat) (m0 : XM) : Option (Int32 × XM) :=
    xv (gi m0 q0 7) fun v1 => xv (si m0 q0 5 v1) fun m2 => xca (fX9_fine N q0 m2) fun v4 m3 => if (v4 : Int32) = 0 then (xv (gi m3 q0 6) fun v6 => xv (v6 - 10 : Int32) fun v7 => some (v7, m3)) else (xcv (fX9_binds N q0 m3) fun m5 => fX9_text_200 N XF q0 0 m5)
def fX9_text_158 (N : Nat → Nat) (q0 : Nat) (s0 : Int32) (m0 : XM) : Option (Int32 × XM) :=
    if (s0 : Int32) = (-1) then (fX9_text_171 N q0 m0) else (xca (fX9_wrong N q0 5 s0 m0) fun v2 m1 => fX9_text_171 N q0 m1)
def fX9_text_143 (N : Nat → Nat) (q0 : Nat) (m0 : XM) : Option (Int32 × XM) :=
    xca (fX9_fine N q0 m0) fun v2 m1 => if (v2 : Int32) = 0 then (fX9_text_158 N q0 (-1) m1) else (xca (fX9_missing N q0 m1) fun v4 m3 => fX9_text_158 N q0 v4 m3)
def fX9_text_118 (N : Nat → Nat) (q0 : Nat) (m0 : XM) : Option (Int32 × XM) :=
    xca (fX9_fine N q0 m0) fun v2 m1 => if (v2 : Int32) = 0 then (fX9_text_143 N q0 m1) else (xca (fX9_here N q0 m1) fun v4 m3 => if (v4 : Int32) = (-1) then (fX9_text_143 N q0 m3) else (xv (gi m3 q0 4) fun v5 => xca (fX9_wrong N q0 1 v5 m3) fun v7 m6 => fX9_text_143 N q0 m6))
def fX9_text_104 (N : Nat → Nat) (q0 : Nat) (m0 : XM) : Option (Int32 × XM) :=
    xca (fX9_takesWord N q0 9 m0) fun v2 m1 => if (v2 : Int32) = 0 then (fX9_text_118 N q0 m1) else (xcv (fX9_main N q0 m1) fun m3 => fX9_text_118 N q0 m3)
def fX9_text_80 (N : Nat → Nat) : Nat → Nat → XM → Option (Int32 × XM)
  | 0, _, _ => none
  | n + 1, q0, m0 => xv (fun q0 m0 => fX9_text_80 N n q0 m0) fun r80 =>
    xca (fX9_fine N q0 m0) fun v2 m1 => if (v2 : Int32) = 0 then (fX9_text_104 N q0 m1) else (xca (fX9_isWord N q0 8 m1) fun v4 m3 => if (v4 : Int32) = 0 then (fX9_text_104 N q0 m3) else (xcv (fX9_unitHere N q0 m3) fun m5 => r80 q0 m5))
def fX9_text_60 (N : Nat → Nat) : Nat → Nat → Int32 → XM → Option (Int32 × XM)
  | 0, _, _, _ => none
  | n + 1, q0, x2, m0 => xv (fun q0 x2 m0 => fX9_text_60 N n q0 x2 m0) fun r60 =>
    if 3820 ≤ (x2 : Int32) then (fX9_text_80 N XF q0 m0) else (xgr m0 q0 10 fun u1 => xast N m0 u1 x2 0 fun m2 => xv (x2 + 1) fun v3 => r60 q0 v3 m2)
def fX9_text_23 (N : Nat → Nat) (q0 : Nat) (x1 : Int32) (p0 : Nat) (s1 : Int32) (m0 : XM) : Option (Int32 × XM) :=
    xca (fX9_bad N p0 s1 1 1 m0) fun v2 m1 => if (v2 : Int32) = 0 then (xv (si m1 q0 2 0) fun m3 => xv (si m3 q0 3 x1) fun m4 => xv (si m4 q0 4 0) fun m5 => xv (si m5 q0 6 0) fun m6 => xv (si m6 q0 7 (-1)) fun m7 => fX9_text_60 N XF q0 0 m7) else (some (0, m1))
def fX9_text (N : Nat → Nat) (a0 : Nat) (a1 : Int32) (m0 : XM) : Option (Int32 × XM) :=
    xv (si m0 a0 0 0) fun m1 => xv (gi m1 a0 2) fun v2 => xca (fX9_in N a1 0 v2 m1) fun v4 m3 => if (v4 : Int32) = 0 then (fX9_text_23 N a0 a1 a0 1 m3) else (fX9_text_23 N a0 a1 a0 0 m3)
def fX9_fault (N : Nat → Nat) (a0 : Nat) (m0 : XM) : Option (Int32 × XM) :=
    xv (si m0 a0 0 0) fun m1 => xv (gi m1 a0 5) fun v2 => some (v2, m1)
def fX9_isUnit (N : Nat → Nat) (a0 : Nat) (a1 : Int32) (m0 : XM) : Option (Int32 × XM) :=
    xgr m0 a0 9 fun u1 => xald N m0 u1 0 fun v2 => xv (v2 - 1 : Int32) fun v3 => xca (fX9_in N a1 0 v3 m0) fun v5 m4 => xnb v5 (some (v5, m4))
def fX9_isMember_31 (N : Nat → Nat) (m0 : XM) : Option (Int32 × XM) :=
    some (0, m0)
def fX9_isMember (N : Nat → Nat) (a0 : Nat) (a1 : Int32) (a2 : Int32) (m0 : XM) : Option (Int32 × XM) :=
    xca (fX9_isUnit N a0 a1 m0) fun v2 m1 => if (v2 : Int32) = 0 then (fX9_isMember_31 N m1) else (xgr m1 a0 9 fun u3 => xca (fX9_unitOf N u3 a1 2 m1) fun v5 m4 => xv (v5 - 1 : Int32) fun v6 => xca (fX9_in N a2 0 v6 m4) fun v8 m7 => if (v8 : Int32) = 0 then (fX9_isMember_31 N m7) else (some (1, m7)))
def fX9_shifts_61 (N : Nat → Nat) : Nat → Nat → Int32 → Int32 → Int32 → Int32 → XM → Option XM
  | 0, _, _, _, _, _, _ => none
  | n + 1, q0, x3, x4, x5, x6, m0 => xv (fun q0 x3 x4 x5 x6 m0 => fX9_shifts_61 N n q0 x3 x4 x5 x6 m0) fun r61 =>
    if (x6 : Int32) ≤ x3 then (xgr m0 q0 9 fun u1 => xv (x4 + x3 : Int32) fun v2 => xast N m0 u1 v2 x5 fun m3 => some m3) else (xgr m0 q0 9 fun u4 => xv (x4 + x6 : Int32) fun v5 => xgr m0 q0 9 fun u6 => xv (x4 + x6 : Int32) fun v7 => xv (v7 - 1 : Int32) fun v8 => xald N m0 u6 v8 fun v9 => xast N m0 u4 v5 v9 fun m10 => xv (x6 + (-1)) fun v11 => r61 q0 x3 x4 x5 v11 m10)
def fX9_shifts_24 (N : Nat → Nat) : Nat → Nat → Int32 → Int32 → Int32 → Int32 → Int32 → XM → Option XM
  | 0, _, _, _, _, _, _, _ => none
  | n + 1, q0, x2, x3, x4, x5, x6, m0 => xv (fun q0 x2 x3 x4 x5 x6 m0 => fX9_shifts_24 N n q0 x2 x3 x4 x5 x6 m0) fun r24 =>
    if x3 ≤ (x6 : Int32) then (fX9_shifts_61 N XF q0 x3 x4 x5 x2 m0) else (xgr m0 q0 9 fun u1 => xv (x4 + x6 : Int32) fun v2 => xgr m0 q0 9 fun u3 => xv (x4 + x6 : Int32) fun v4 => xv (v4 + 1 : Int32) fun v5 => xald N m0 u3 v5 fun v6 => xast N m0 u1 v2 v6 fun m7 => xv (x6 + 1) fun v8 => r24 q0 x2 x3 x4 x5 v8 m7)
def fX9_shifts (N : Nat → Nat) (a0 : Nat) (a1 : Int32) (a2 : Int32) (a3 : Int32) (m0 : XM) : Option XM :=
    xv (15 * a1 : Int32) fun v1 => xv (5 + v1 : Int32) fun v2 => xv (v2 + 3 : Int32) fun v3 => xgr m0 a0 9 fun u4 => xv (v3 + a2 : Int32) fun v5 => xald N m0 u4 v5 fun v6 => fX9_shifts_24 N XF a0 a2 a3 v3 v6 a2 m0
def fX9_remembers_83 (N : Nat → Nat) (q0 : Nat) (x1 : Int32) (x2 : Int32) (x3 : Int32) (m0 : XM) : Option XM :=
    xgr m0 q0 12 fun u1 => xv (gi m0 q0 15) fun v2 => xast N m0 u1 v2 x1 fun m3 => xgr m3 q0 13 fun u4 => xv (gi m3 q0 15) fun v5 => xast N m3 u4 v5 x2 fun m6 => xgr m6 q0 14 fun u7 => xv (gi m6 q0 15) fun v8 => xast N m6 u7 v8 x3 fun m9 => xv (gi m9 q0 15) fun v10 => xv (v10 + 1 : Int32) fun v11 => xv (si m9 q0 15 v11) fun m12 => xv (si m12 q0 16 0) fun m13 => some m13
def fX9_remembers_12 (N : Nat → Nat) : Nat → Nat → Int32 → Int32 → Int32 → Int32 → XM → Option XM
  | 0, _, _, _, _, _, _ => none
  | n + 1, q0, x1, x2, x3, x4, m0 => xv (fun q0 x1 x2 x3 x4 m0 => fX9_remembers_12 N n q0 x1 x2 x3 x4 m0) fun r12 =>
    if 16 ≤ (x4 : Int32) then (xv (gi m0 q0 15) fun v1 => xv (v1 - 1 : Int32) fun v2 => xv (si m0 q0 15 v2) fun m3 => fX9_remembers_83 N q0 x1 x2 x3 m3) else (xgr m0 q0 12 fun u4 => xv (x4 - 1 : Int32) fun v5 => xgr m0 q0 12 fun u6 => xald N m0 u6 x4 fun v7 => xast N m0 u4 v5 v7 fun m8 => xgr m8 q0 13 fun u9 => xv (x4 - 1 : Int32) fun v10 => xgr m8 q0 13 fun u11 => xald N m8 u11 x4 fun v12 => xast N m8 u9 v10 v12 fun m13 => xgr m13 q0 14 fun u14 => xv (x4 - 1 : Int32) fun v15 => xgr m13 q0 14 fun u16 => xald N m13 u16 x4 fun v17 => xast N m13 u14 v15 v17 fun m18 => xv (x4 + 1) fun v19 => r12 q0 x1 x2 x3 v19 m18)
def fX9_remembers (N : Nat → Nat) (a0 : Nat) (a1 : Int32) (a2 : Int32) (a3 : Int32) (m0 : XM) : Option XM :=
    xv (gi m0 a0 15) fun v1 => if (v1 : Int32) = 16 then (fX9_remembers_12 N XF a0 a1 a2 a3 1 m0) else (fX9_remembers_83 N a0 a1 a2 a3 m0)
def fX9_move_29 (N : Nat → Nat) (q0 : Nat) (x1 : Int32) (x2 : Int32) (x3 : Int32) (p0 : Nat) (s1 : Int32) (m0 : XM) : Option (Int32 × XM) :=
    xca (fX9_bad N p0 s1 1 0 m0) fun v2 m1 => if (v2 : Int32) = 0 then (if (x2 : Int32) = x3 then (some (0, m1)) else (xcv (fX9_remembers N q0 x1 x2 x3 m1) fun m3 => xcv (fX9_shifts N q0 x1 x2 x3 m3) fun m4 => some (1, m4))) else (some (0, m1))
def fX9_move_24 (N : Nat → Nat) (q0 : Nat) (x1 : Int32) (x2 : Int32) (x3 : Int32) (p0 : Nat) (m0 : XM) : Option (Int32 × XM) :=
    fX9_move_29 N q0 x1 x2 x3 p0 1 m0
def fX9_move (N : Nat → Nat) (a0 : Nat) (a1 : Int32) (a2 : Int32) (a3 : Int32) (m0 : XM) : Option (Int32 × XM) :=
    xv (si m0 a0 0 0) fun m1 => xca (fX9_isMember N a0 a1 a2 m1) fun v3 m2 => if (v3 : Int32) = 0 then (fX9_move_24 N a0 a1 a2 a3 a0 m2) else (xca (fX9_isMember N a0 a1 a3 m2) fun v5 m4 => if (v5 : Int32) = 0 then (fX9_move_24 N a0 a1 a2 a3 a0 m4) else (fX9_move_29 N a0 a1 a2 a3 a0 0 m4))
def fX9_turn_66 (N : Nat → Nat) (q0 : Nat) (x3 : Int32) (p0 : Nat) (s1 : Int32) (s2 : Int32) (m0 : XM) : Option (Int32 × XM) :=
    xzst N m0 p0 s1 s2 fun m1 => xgr m1 q0 11 fun u2 => xald N m1 u2 x3 fun v3 => if (v3 : Int32) = 0 then (some (1, m1)) else (some (0, m1))
def fX9_turn_20 (N : Nat → Nat) (q0 : Nat) (x1 : Int32) (x2 : Int32) (p0 : Nat) (s1 : Int32) (m0 : XM) : Option (Int32 × XM) :=
    xca (fX9_bad N p0 s1 1 0 m0) fun v2 m1 => if (v2 : Int32) = 0 then (xgr m1 q0 9 fun u3 => xca (fX9_memberAt N u3 x1 x2 m1) fun v5 m4 => xcv (fX9_remembers N q0 x1 v5 (-1) m4) fun m6 => xgr m6 q0 11 fun u7 => xgr m6 q0 11 fun u8 => xald N m6 u8 v5 fun v9 => if (v9 : Int32) = 0 then (fX9_turn_66 N q0 v5 u7 v5 1 m6) else (fX9_turn_66 N q0 v5 u7 v5 0 m6)) else (some (0, m1))
def fX9_turn (N : Nat → Nat) (a0 : Nat) (a1 : Int32) (a2 : Int32) (m0 : XM) : Option (Int32 × XM) :=
    xv (si m0 a0 0 0) fun m1 => xca (fX9_isMember N a0 a1 a2 m1) fun v3 m2 => if (v3 : Int32) = 0 then (fX9_turn_20 N a0 a1 a2 a0 1 m2) else (fX9_turn_20 N a0 a1 a2 a0 0 m2)
def fX9_undo_77 (N : Nat → Nat) (q0 : Nat) (p0 : Nat) (s1 : Int32) (s2 : Int32) (m0 : XM) : Option (Int32 × XM) :=
    xzst N m0 p0 s1 s2 fun m1 => xv (gi m1 q0 15) fun v2 => some (v2, m1)
def fX9_undo (N : Nat → Nat) (a0 : Nat) (m0 : XM) : Option (Int32 × XM) :=
    xv (si m0 a0 0 0) fun m1 => xv (gi m1 a0 15) fun v2 => if (v2 : Int32) = 0 then (some ((-1), m1)) else (xv (gi m1 a0 15) fun v3 => xv (v3 - 1 : Int32) fun v4 => xv (si m1 a0 15 v4) fun m5 => xv (si m5 a0 16 0) fun m6 => xgr m6 a0 14 fun u7 => xv (gi m6 a0 15) fun v8 => xald N m6 u7 v8 fun v9 => if (v9 : Int32) = (-1) then (xgr m6 a0 11 fun u21 => xgr m6 a0 13 fun u22 => xv (gi m6 a0 15) fun v23 => xald N m6 u22 v23 fun v24 => xgr m6 a0 11 fun u25 => xgr m6 a0 13 fun u26 => xv (gi m6 a0 15) fun v27 => xald N m6 u26 v27 fun v28 => xald N m6 u25 v28 fun v29 => if (v29 : Int32) = 0 then (fX9_undo_77 N a0 u21 v24 1 m6) else (fX9_undo_77 N a0 u21 v24 0 m6)) else (xgr m6 a0 12 fun u10 => xv (gi m6 a0 15) fun v11 => xald N m6 u10 v11 fun v12 => xgr m6 a0 14 fun u13 => xv (gi m6 a0 15) fun v14 => xald N m6 u13 v14 fun v15 => xgr m6 a0 13 fun u16 => xv (gi m6 a0 15) fun v17 => xald N m6 u16 v17 fun v18 => xcv (fX9_shifts N a0 v12 v15 v18 m6) fun m19 => xv (gi m19 a0 15) fun v20 => some (v20, m19)))
def fX9_works_28 (N : Nat → Nat) (q0 : Nat) (m0 : XM) : Option (Int32 × XM) :=
    xv (gi m0 q0 30) fun v1 => if (v1 : Int32) = 0 then (some (1, m0)) else (some (0, m0))
def fX9_works (N : Nat → Nat) (a0 : Nat) (m0 : XM) : Option (Int32 × XM) :=
    xv (gi m0 a0 29) fun v1 => if (v1 : Int32) = 3000 then (xv (si m0 a0 30 2) fun m5 => fX9_works_28 N a0 m5) else (xv (gi m0 a0 29) fun v2 => xv (v2 + 1 : Int32) fun v3 => xv (si m0 a0 29 v3) fun m4 => fX9_works_28 N a0 m4)
def fX9_opens (N : Nat → Nat) (a0 : Nat) (a1 : Int32) (a2 : Int32) (m0 : XM) : Option (Int32 × XM) :=
    xv (gi m0 a0 28) fun v1 => if (v1 : Int32) = 20 then (xv (si m0 a0 30 2) fun m11 => some (0, m11)) else (xgr m0 a0 24 fun u2 => xv (gi m0 a0 28) fun v3 => xast N m0 u2 v3 a1 fun m4 => xgr m4 a0 25 fun u5 => xv (gi m4 a0 28) fun v6 => xast N m4 u5 v6 a2 fun m7 => xv (gi m7 a0 28) fun v8 => xv (v8 + 1 : Int32) fun v9 => xv (si m7 a0 28 v9) fun m10 => some (1, m10))
def fX9_fails (N : Nat → Nat) (a0 : Nat) (a1 : Int32) (a2 : Int32) (m0 : XM) : Option XM :=
    xv (si m0 a0 30 1) fun m1 => xv (si m1 a0 35 a1) fun m2 => xv (si m2 a0 36 a2) fun m3 => xv (si m3 a0 37 0) fun m4 => some m4
def fX9_isEarly_36 (N : Nat → Nat) (m0 : XM) : Option (Int32 × XM) :=
    some (0, m0)
def fX9_isEarly (N : Nat → Nat) (a0 : Nat) (a1 : Int32) (a2 : Int32) (m0 : XM) : Option (Int32 × XM) :=
    xgr m0 a0 9 fun u1 => xca (fX9_ofMember N u1 a2 2 m0) fun v3 m2 => if (v3 : Int32) = (-1) then (fX9_isEarly_36 N m2) else (xgr m2 a0 26 fun u4 => xald N m2 u4 a2 fun v5 => if (v5 : Int32) = 0 then (xgr m2 a0 18 fun u6 => xald N m2 u6 a1 fun v7 => if (v7 : Int32) = 1 then (some (1, m2)) else (fX9_isEarly_36 N m2)) else (fX9_isEarly_36 N m2))
def fX9_notes_151 (N : Nat → Nat) (q0 : Nat) (m0 : XM) : Option XM :=
    xv (gi m0 q0 31) fun v1 => xv (v1 + 1 : Int32) fun v2 => xv (si m0 q0 31 v2) fun m3 => some m3
def fX9_notes_92 (N : Nat → Nat) : Nat → Nat → Int32 → XM → Option XM
  | 0, _, _, _ => none
  | n + 1, q0, x4, m0 => xv (fun q0 x4 m0 => fX9_notes_92 N n q0 x4 m0) fun r92 =>
    xv (gi m0 q0 28) fun v1 => if v1 ≤ (x4 : Int32) then (fX9_notes_151 N q0 m0) else (xgr m0 q0 39 fun u2 => xv (gi m0 q0 31) fun v3 => xv (20 * v3 : Int32) fun v4 => xv (v4 + x4 : Int32) fun v5 => xgr m0 q0 24 fun u6 => xald N m0 u6 x4 fun v7 => xast N m0 u2 v5 v7 fun m8 => xgr m8 q0 40 fun u9 => xv (gi m8 q0 31) fun v10 => xv (20 * v10 : Int32) fun v11 => xv (v11 + x4 : Int32) fun v12 => xgr m8 q0 25 fun u13 => xald N m8 u13 x4 fun v14 => xast N m8 u9 v12 v14 fun m15 => xv (x4 + 1) fun v16 => r92 q0 v16 m15)
def fX9_notes (N : Nat → Nat) (a0 : Nat) (a1 : Int32) (a2 : Int32) (m0 : XM) : Option XM :=
    xv (gi m0 a0 41) fun v1 => if (v1 : Int32) = 0 then (fX9_notes_151 N a0 m0) else (xv (gi m0 a0 31) fun v2 => xv (6 * v2 : Int32) fun v3 => xgr m0 a0 38 fun u4 => xast N m0 u4 v3 a1 fun m5 => xgr m5 a0 38 fun u6 => xv (v3 + 1 : Int32) fun v7 => xgr m5 a0 9 fun u8 => xca (fX9_ofMember N u8 a2 1 m5) fun v10 m9 => xast N m9 u6 v7 v10 fun m11 => xgr m11 a0 38 fun u12 => xv (v3 + 2 : Int32) fun v13 => xgr m11 a0 20 fun u14 => xald N m11 u14 a2 fun v15 => xast N m11 u12 v13 v15 fun m16 => xgr m16 a0 38 fun u17 => xv (v3 + 3 : Int32) fun v18 => xv (gi m16 a0 29) fun v19 => xast N m16 u17 v18 v19 fun m20 => xgr m20 a0 38 fun u21 => xv (v3 + 4 : Int32) fun v22 => xv (gi m20 a0 28) fun v23 => xast N m20 u21 v22 v23 fun m24 => xgr m24 a0 38 fun u25 => xv (v3 + 5 : Int32) fun v26 => xv (gi m24 a0 34) fun v27 => xast N m24 u25 v26 v27 fun m28 => fX9_notes_92 N XF a0 0 m28)
def fX9_comesTo_212 (N : Nat → Nat) (R : Nat → Nat → Int32 → Int32 → XM → Option (Int32 × XM)) (q0 : Nat) (x1 : Int32) (p0 : Nat) (s1 : Int32) (s2 : Int32) (m0 : XM) : Option XM :=
    xast N m0 p0 s1 s2 fun m1 => xgr m1 q0 23 fun u2 => xv (gi m1 q0 37) fun v3 => xast N m1 u2 x1 v3 fun m4 => xv (gi m4 q0 37) fun v5 => xv (v5 + 1 : Int32) fun v6 => xv (si m4 q0 37 v6) fun m7 => some m7
def fX9_comesTo_140 (N : Nat → Nat) (R : Nat → Nat → Int32 → Int32 → XM → Option (Int32 × XM)) (q0 : Nat) (x1 : Int32) (m0 : XM) : Option XM :=
    xv (gi m0 q0 30) fun v1 => if (v1 : Int32) = 2 then (some m0) else (xv (gi m0 q0 28) fun v2 => xv (v2 - 1 : Int32) fun v3 => xv (si m0 q0 28 v3) fun m4 => xv (gi m4 q0 30) fun v5 => if (v5 : Int32) = 0 then (xgr m4 q0 18 fun u14 => xast N m4 u14 x1 2 fun m15 => some m15) else (xgr m4 q0 18 fun u6 => xast N m4 u6 x1 3 fun m7 => xgr m7 q0 21 fun u8 => xv (gi m7 q0 35) fun v9 => xast N m7 u8 x1 v9 fun m10 => xgr m10 q0 22 fun u11 => xv (gi m10 q0 35) fun v12 => if (v12 : Int32) = 2 then (xv (gi m10 q0 36) fun v13 => fX9_comesTo_212 N R q0 x1 u11 x1 v13 m10) else (fX9_comesTo_212 N R q0 x1 u11 x1 (-1) m10)))
def fX9_comesTo_100 (N : Nat → Nat) (R : Nat → Nat → Int32 → Int32 → XM → Option (Int32 × XM)) : Nat → Nat → Int32 → Int32 → XM → Option XM
  | 0, _, _, _, _ => none
  | n + 1, q0, x1, x2, m0 => xv (fun q0 x1 x2 m0 => fX9_comesTo_100 N R n q0 x1 x2 m0) fun r100 =>
    xgr m0 q0 9 fun u1 => xca (fX9_unitOf N u1 x1 2 m0) fun v3 m2 => if v3 ≤ (x2 : Int32) then (fX9_comesTo_140 N R q0 x1 m2) else (xv (gi m2 q0 30) fun v4 => if (v4 : Int32) = 0 then (xgr m2 q0 9 fun u5 => xca (fX9_memberAt N u5 x1 x2 m2) fun v7 m6 => xcv (R 1 q0 x1 v7 m6 |>.map Prod.snd) fun m8 => xv (x2 + 1) fun v9 => r100 q0 x1 v9 m8) else (fX9_comesTo_140 N R q0 x1 m2))
def fX9_comesTo_98 (N : Nat → Nat) (R : Nat → Nat → Int32 → Int32 → XM → Option (Int32 × XM)) (q0 : Nat) (x1 : Int32) (m0 : XM) : Option XM :=
    fX9_comesTo_100 N R XF q0 x1 0 m0
def fX9_comesTo (N : Nat → Nat) (R : Nat → Nat → Int32 → Int32 → XM → Option (Int32 × XM)) (a0 : Nat) (a1 : Int32) (m0 : XM) : Option XM :=
    xgr m0 a0 18 fun u1 => xald N m0 u1 a1 fun v2 => if (v2 : Int32) = 3 then (xcv (fX9_fails N a0 2 a1 m0) fun m24 => some m24) else (xgr m0 a0 18 fun u3 => xald N m0 u3 a1 fun v4 => if (v4 : Int32) = 0 then (xca (fX9_opens N a0 a1 99 m0) fun v6 m5 => if (v6 : Int32) = 0 then (some m5) else (xca (fX9_works N a0 m5) fun v8 m7 => if (v8 : Int32) = 0 then (some m7) else (xgr m7 a0 18 fun u9 => xast N m7 u9 a1 1 fun m10 => xgr m10 a0 19 fun u11 => xv (gi m10 a0 27) fun v12 => xast N m10 u11 v12 a1 fun m13 => xv (gi m13 a0 27) fun v14 => xv (v14 + 1 : Int32) fun v15 => xv (si m13 a0 27 v15) fun m16 => xgr m16 a0 9 fun u17 => xca (fX9_unitOf N u17 a1 1 m16) fun v19 m18 => if (v19 : Int32) = (-1) then (fX9_comesTo_98 N R a0 a1 m18) else (xgr m18 a0 9 fun u20 => xca (fX9_unitOf N u20 a1 1 m18) fun v22 m21 => xcv (R 0 a0 v22 0 m21 |>.map Prod.snd) fun m23 => fX9_comesTo_98 N R a0 a1 m23)))) else (some m0))
def fX9_does_89 (N : Nat → Nat) (R : Nat → Nat → Int32 → Int32 → XM → Option (Int32 × XM)) (q0 : Nat) (x2 : Int32) (m0 : XM) : Option XM :=
    xgr m0 q0 9 fun u1 => xca (fX9_ofMember N u1 x2 2 m0) fun v3 m2 => xcv (R 2 q0 v3 0 m2 |>.map Prod.snd) fun m4 => some m4
def fX9_does_79 (N : Nat → Nat) (R : Nat → Nat → Int32 → Int32 → XM → Option (Int32 × XM)) (q0 : Nat) (x2 : Int32) (x3 : Int32) (m0 : XM) : Option XM :=
    if (x3 : Int32) = 2 then (fX9_does_89 N R q0 x2 m0) else (if (x3 : Int32) = 3 then (fX9_does_89 N R q0 x2 m0) else (some m0))
def fX9_does (N : Nat → Nat) (R : Nat → Nat → Int32 → Int32 → XM → Option (Int32 × XM)) (a0 : Nat) (a1 : Int32) (a2 : Int32) (m0 : XM) : Option XM :=
    xgr m0 a0 11 fun u1 => xald N m0 u1 a2 fun v2 => if (v2 : Int32) = 0 then (xgr m0 a0 9 fun u3 => xca (fX9_ofMember N u3 a2 0 m0) fun v5 m4 => if (v5 : Int32) = 1 then (xgr m4 a0 9 fun u6 => xca (fX9_ofMember N u6 a2 2 m4) fun v8 m7 => if (v8 : Int32) = (-1) then (fX9_does_79 N R a0 a2 v5 m7) else (xgr m7 a0 9 fun u9 => xca (fX9_ofMember N u9 a2 2 m7) fun v11 m10 => xca (R 3 a0 v11 0 m10) fun v13 m12 => xv (gi m12 a0 30) fun v14 => if (v14 : Int32) = 0 then (xgr m12 a0 20 fun u15 => xast N m12 u15 a2 v13 fun m16 => xgr m16 a0 26 fun u17 => xzst N m16 u17 a2 1 fun m18 => some m18) else (some m12))) else (fX9_does_79 N R a0 a2 v5 m4)) else (some m0)
def fX9_acts_88 (N : Nat → Nat) (R : Nat → Nat → Int32 → Int32 → XM → Option (Int32 × XM)) (q0 : Nat) (x2 : Int32) (x4 : Int32) (m0 : XM) : Option XM :=
    xgr m0 q0 20 fun u1 => xast N m0 u1 x4 x2 fun m2 => some m2
def fX9_acts (N : Nat → Nat) (R : Nat → Nat → Int32 → Int32 → XM → Option (Int32 × XM)) (a0 : Nat) (a1 : Int32) (m0 : XM) : Option XM :=
    xgr m0 a0 9 fun u1 => xca (fX9_ofAct N u1 a1 2 m0) fun v3 m2 => xca (R 3 a0 v3 0 m2) fun v5 m4 => xgr m4 a0 9 fun u6 => xca (fX9_ofAct N u6 a1 0 m4) fun v8 m7 => xgr m7 a0 9 fun u9 => xca (fX9_ofAct N u9 a1 1 m7) fun v11 m10 => xv (gi m10 a0 30) fun v12 => if (v12 : Int32) = 0 then (if (v8 : Int32) = (-1) then (some m10) else (xcv (R 0 a0 v8 0 m10 |>.map Prod.snd) fun m13 => xv (gi m13 a0 30) fun v14 => if (v14 : Int32) = 0 then (xca (fX9_works N a0 m13) fun v16 m15 => if (v16 : Int32) = 0 then (some m15) else (xca (fX9_isEarly N a0 v8 v11 m15) fun v18 m17 => if (v18 : Int32) = 0 then (fX9_acts_88 N R a0 v5 v11 m17) else (xv (gi m17 a0 32) fun v19 => xv (v19 + 1 : Int32) fun v20 => xv (si m17 a0 32 v20) fun m21 => fX9_acts_88 N R a0 v5 v11 m21))) else (some m13))) else (some m10)
def fX9_sumOf_76 (N : Nat → Nat) (R : Nat → Nat → Int32 → Int32 → XM → Option (Int32 × XM)) (r4 : Nat → Int32 → Int32 → Int32 → XM → Option (Int32 × XM)) (q0 : Nat) (x1 : Int32) (x3 : Int32) (s0 : Int32) (m0 : XM) : Option (Int32 × XM) :=
    xgr m0 q0 9 fun u1 => xca (fX9_ofTerm N u1 x3 4 m0) fun v3 m2 => r4 q0 x1 s0 v3 m2
def fX9_sumOf_4 (N : Nat → Nat) (R : Nat → Nat → Int32 → Int32 → XM → Option (Int32 × XM)) : Nat → Nat → Int32 → Int32 → Int32 → XM → Option (Int32 × XM)
  | 0, _, _, _, _, _ => none
  | n + 1, q0, x1, x2, x3, m0 => xv (fun q0 x1 x2 x3 m0 => fX9_sumOf_4 N R n q0 x1 x2 x3 m0) fun r4 =>
    if (x3 : Int32) = (-1) then (some (x2, m0)) else (xv (gi m0 q0 30) fun v1 => if (v1 : Int32) = 0 then (xgr m0 q0 9 fun u2 => xca (fX9_ofTerm N u2 x3 0 m0) fun v4 m3 => xca (R 4 q0 x3 0 m3) fun v6 m5 => if (x3 : Int32) = x1 then (fX9_sumOf_76 N R r4 q0 x1 x3 v6 m5) else (if (v4 : Int32) = 43 then (xv (x2 + v6 : Int32) fun v9 => fX9_sumOf_76 N R r4 q0 x1 x3 v9 m5) else (if (v4 : Int32) = 45 then (xv (x2 - v6 : Int32) fun v8 => fX9_sumOf_76 N R r4 q0 x1 x3 v8 m5) else (xv (x2 * v6 : Int32) fun v7 => fX9_sumOf_76 N R r4 q0 x1 x3 v7 m5)))) else (some (x2, m0)))
def fX9_sumOf (N : Nat → Nat) (R : Nat → Nat → Int32 → Int32 → XM → Option (Int32 × XM)) (a0 : Nat) (a1 : Int32) (m0 : XM) : Option (Int32 × XM) :=
    fX9_sumOf_4 N R XF a0 a1 0 a1 m0
def fX9_termOf_138 (N : Nat → Nat) (R : Nat → Nat → Int32 → Int32 → XM → Option (Int32 × XM)) (q0 : Nat) (x4 : Int32) (m0 : XM) : Option (Int32 × XM) :=
    xgr m0 q0 20 fun u1 => xald N m0 u1 x4 fun v2 => some (v2, m0)
def fX9_termOf (N : Nat → Nat) (R : Nat → Nat → Int32 → Int32 → XM → Option (Int32 × XM)) (a0 : Nat) (a1 : Int32) (m0 : XM) : Option (Int32 × XM) :=
    xgr m0 a0 9 fun u1 => xca (fX9_ofTerm N u1 a1 1 m0) fun v3 m2 => xgr m2 a0 9 fun u4 => xca (fX9_ofTerm N u4 a1 2 m2) fun v6 m5 => xgr m5 a0 9 fun u7 => xca (fX9_ofTerm N u7 a1 3 m5) fun v9 m8 => if (v3 : Int32) = 4 then (xca (R 3 a0 v6 0 m8) fun v27 m26 => some (v27, m26)) else (xca (fX9_works N a0 m8) fun v11 m10 => if (v11 : Int32) = 0 then (some (0, m10)) else (if (v3 : Int32) = 0 then (some (v6, m10)) else (if (v3 : Int32) = 3 then (xcv (fX9_fails N a0 1 (-1) m10) fun m25 => some (0, m25)) else (xgr m10 a0 9 fun u12 => xca (fX9_ofMember N u12 v9 0 m10) fun v14 m13 => if (v14 : Int32) = 0 then (xgr m13 a0 9 fun u22 => xca (fX9_ofMember N u22 v9 2 m13) fun v24 m23 => some (v24, m23)) else (xcv (R 0 a0 v6 0 m13 |>.map Prod.snd) fun m15 => xv (gi m15 a0 30) fun v16 => if (v16 : Int32) = 0 then (if (v3 : Int32) = 2 then (xca (R 5 a0 v6 v9 m15) fun v21 m20 => some (v21, m20)) else (xca (fX9_isEarly N a0 v6 v9 m15) fun v18 m17 => if (v18 : Int32) = 0 then (fX9_termOf_138 N R a0 v9 m17) else (xcv (fX9_notes N a0 v6 v9 m17) fun m19 => fX9_termOf_138 N R a0 v9 m19))) else (some (0, m15)))))))
def fX9_calls_86 (N : Nat → Nat) (R : Nat → Nat → Int32 → Int32 → XM → Option (Int32 × XM)) (q0 : Nat) (s0 : Int32) (m0 : XM) : Option (Int32 × XM) :=
    xv (gi m0 q0 30) fun v1 => if (v1 : Int32) = 2 then (some (s0, m0)) else (xv (gi m0 q0 28) fun v2 => xv (v2 - 1 : Int32) fun v3 => xv (si m0 q0 28 v3) fun m4 => some (s0, m4))
def fX9_calls_62 (N : Nat → Nat) (R : Nat → Nat → Int32 → Int32 → XM → Option (Int32 × XM)) (q0 : Nat) (x2 : Int32) (m0 : XM) : Option (Int32 × XM) :=
    xv (gi m0 q0 30) fun v1 => if (v1 : Int32) = 0 then (xgr m0 q0 9 fun u2 => xca (fX9_ofMember N u2 x2 2 m0) fun v4 m3 => xca (R 3 q0 v4 0 m3) fun v6 m5 => fX9_calls_86 N R q0 v6 m5) else (fX9_calls_86 N R q0 0 m0)
def fX9_calls_21 (N : Nat → Nat) (R : Nat → Nat → Int32 → Int32 → XM → Option (Int32 × XM)) : Nat → Nat → Int32 → Int32 → XM → Option (Int32 × XM)
  | 0, _, _, _, _ => none
  | n + 1, q0, x2, x3, m0 => xv (fun q0 x2 x3 m0 => fX9_calls_21 N R n q0 x2 x3 m0) fun r21 =>
    xgr m0 q0 9 fun u1 => xca (fX9_ofMember N u1 x2 3 m0) fun v3 m2 => if v3 ≤ (x3 : Int32) then (fX9_calls_62 N R q0 x2 m2) else (xv (gi m2 q0 30) fun v4 => if (v4 : Int32) = 0 then (xgr m2 q0 9 fun u5 => xca (fX9_ofMember N u5 x2 4 m2) fun v7 m6 => xv (v7 + x3 : Int32) fun v8 => xcv (R 2 q0 v8 0 m6 |>.map Prod.snd) fun m9 => xv (x3 + 1) fun v10 => r21 q0 x2 v10 m9) else (fX9_calls_62 N R q0 x2 m2))
def fX9_calls (N : Nat → Nat) (R : Nat → Nat → Int32 → Int32 → XM → Option (Int32 × XM)) (a0 : Nat) (a1 : Int32) (a2 : Int32) (m0 : XM) : Option (Int32 × XM) :=
    xgr m0 a0 9 fun u1 => xca (fX9_ofMember N u1 a2 1 m0) fun v3 m2 => xca (fX9_opens N a0 a1 v3 m2) fun v5 m4 => if (v5 : Int32) = 0 then (some (0, m4)) else (fX9_calls_21 N R XF a0 a2 0 m4)
def gX9_comesTo (N : Nat → Nat) : Nat → Nat → Nat → Int32 → Int32 → XM → Option (Int32 × XM)
  | 0, _, _, _, _, _ => none
  | e + 1, t, q, x0, x1, m0 => xv (fun t q x0 x1 m0 => gX9_comesTo N e t q x0 x1 m0) fun R =>
    if t = 0 then ((fX9_comesTo N R q x0 m0).map fun m => ((0 : Int32), m)) else if t = 1 then ((fX9_does N R q x0 x1 m0).map fun m => ((0 : Int32), m)) else if t = 2 then ((fX9_acts N R q x0 m0).map fun m => ((0 : Int32), m)) else if t = 3 then fX9_sumOf N R q x0 m0 else if t = 4 then fX9_termOf N R q x0 m0 else if t = 5 then fX9_calls N R q x0 x1 m0 else none
def fX9_begins_44 (N : Nat → Nat) : Nat → Nat → Int32 → XM → Option XM
  | 0, _, _, _ => none
  | n + 1, q0, x1, m0 => xv (fun q0 x1 m0 => fX9_begins_44 N n q0 x1 m0) fun r44 =>
    if 84 ≤ (x1 : Int32) then (xv (si m0 q0 27 0) fun m1 => xv (si m1 q0 28 0) fun m2 => xv (si m2 q0 29 0) fun m3 => xv (si m3 q0 30 0) fun m4 => xv (si m4 q0 31 0) fun m5 => xv (si m5 q0 32 0) fun m6 => xv (si m6 q0 33 0) fun m7 => some m7) else (xgr m0 q0 20 fun u8 => xast N m0 u8 x1 0 fun m9 => xgr m9 q0 26 fun u10 => xzst N m9 u10 x1 0 fun m11 => xv (x1 + 1) fun v12 => r44 q0 v12 m11)
def fX9_begins_2 (N : Nat → Nat) : Nat → Nat → Int32 → XM → Option XM
  | 0, _, _, _ => none
  | n + 1, q0, x1, m0 => xv (fun q0 x1 m0 => fX9_begins_2 N n q0 x1 m0) fun r2 =>
    if 7 ≤ (x1 : Int32) then (fX9_begins_44 N XF q0 0 m0) else (xgr m0 q0 18 fun u1 => xast N m0 u1 x1 0 fun m2 => xgr m2 q0 21 fun u3 => xast N m2 u3 x1 (-1) fun m4 => xgr m4 q0 22 fun u5 => xast N m4 u5 x1 (-1) fun m6 => xgr m6 q0 23 fun u7 => xast N m6 u7 x1 (-1) fun m8 => xv (x1 + 1) fun v9 => r2 q0 v9 m8)
def fX9_begins (N : Nat → Nat) (a0 : Nat) (m0 : XM) : Option XM :=
    fX9_begins_2 N XF a0 0 m0
def fX9_goesMain_74 (N : Nat → Nat) (r5 : Nat → XM → Option XM) (q0 : Nat) (m0 : XM) : Option XM :=
    xv (gi m0 q0 34) fun v1 => xv (v1 + 1 : Int32) fun v2 => xv (si m0 q0 34 v2) fun m3 => r5 q0 m3
def fX9_goesMain_5 (N : Nat → Nat) : Nat → Nat → XM → Option XM
  | 0, _, _ => none
  | n + 1, q0, m0 => xv (fun q0 m0 => fX9_goesMain_5 N n q0 m0) fun r5 =>
    xv (gi m0 q0 34) fun v1 => xgr m0 q0 9 fun u2 => xald N m0 u2 4 fun v3 => if v3 ≤ (v1 : Int32) then (some m0) else (xv (gi m0 q0 30) fun v4 => if (v4 : Int32) = 2 then (some m0) else (xv (si m0 q0 30 0) fun m5 => xgr m5 q0 9 fun u6 => xv (gi m5 q0 34) fun v7 => xv (3810 + v7 : Int32) fun v8 => xald N m5 u6 v8 fun v9 => xcv (gX9_comesTo N 600 2 q0 v9 0 m5 |>.map Prod.snd) fun m10 => xv (gi m10 q0 30) fun v11 => if (v11 : Int32) = 1 then (xv (gi m10 q0 33) fun v12 => xv (v12 + 1 : Int32) fun v13 => xv (si m10 q0 33 v13) fun m14 => xv (si m14 q0 30 0) fun m15 => fX9_goesMain_74 N r5 q0 m15) else (fX9_goesMain_74 N r5 q0 m10)))
def fX9_goesMain (N : Nat → Nat) (a0 : Nat) (m0 : XM) : Option XM :=
    xv (si m0 a0 34 0) fun m1 => fX9_goesMain_5 N XF a0 m1
def fX9_lays (N : Nat → Nat) (a0 : Nat) (m0 : XM) : Option XM :=
    xv (gi m0 a0 16) fun v1 => if (v1 : Int32) = 0 then (xcv (fX9_begins N a0 m0) fun m2 => xv (si m2 a0 41 1) fun m3 => xcv (fX9_goesMain N a0 m3) fun m4 => xv (si m4 a0 41 0) fun m5 => xv (si m5 a0 16 1) fun m6 => some m6) else (some m0)
def fX9_goesEager_83 (N : Nat → Nat) (q0 : Nat) (m0 : XM) : Option XM :=
    xv (gi m0 q0 30) fun v1 => if (v1 : Int32) = 2 then (some m0) else (xv (si m0 q0 30 0) fun m2 => xcv (fX9_goesMain N q0 m2) fun m3 => some m3)
def fX9_goesEager_39 (N : Nat → Nat) : Nat → Nat → Int32 → Int32 → XM → Option XM
  | 0, _, _, _, _ => none
  | n + 1, q0, x1, x2, m0 => xv (fun q0 x1 x2 m0 => fX9_goesEager_39 N n q0 x1 x2 m0) fun r39 =>
    if (x2 : Int32) ≤ 0 then (fX9_goesEager_83 N q0 m0) else (xgr m0 q0 9 fun u1 => xald N m0 u1 0 fun v2 => if (v2 : Int32) ≤ 0 then (fX9_goesEager_83 N q0 m0) else (xv (gi m0 q0 30) fun v3 => if (v3 : Int32) = 2 then (fX9_goesEager_83 N q0 m0) else (xv (si m0 q0 30 0) fun m4 => xdv x2 <| xv (x1 / x2 : Int32) fun v5 => xdv 10 <| xv (xrem v5 10) fun v6 => xcv (gX9_comesTo N 600 0 q0 v6 0 m4 |>.map Prod.snd) fun m7 => xdv 10 <| xv (x2 / 10 : Int32) fun v8 => r39 q0 x1 v8 m7)))
def fX9_goesEager_18 (N : Nat → Nat) : Nat → Nat → Int32 → Int32 → Int32 → XM → Option XM
  | 0, _, _, _, _, _ => none
  | n + 1, q0, x1, x2, x3, m0 => xv (fun q0 x1 x2 x3 m0 => fX9_goesEager_18 N n q0 x1 x2 x3 m0) fun r18 =>
    xgr m0 q0 9 fun u1 => xald N m0 u1 0 fun v2 => if v2 ≤ (x3 : Int32) then (fX9_goesEager_39 N XF q0 x1 x2 m0) else (xv (x2 * 10 : Int32) fun v3 => xv (x3 + 1) fun v4 => r18 q0 x1 v3 v4 m0)
def fX9_goesEager (N : Nat → Nat) (a0 : Nat) (a1 : Int32) (m0 : XM) : Option XM :=
    xv (si m0 a0 16 0) fun m1 => xcv (fX9_begins N a0 m1) fun m2 => xv (si m2 a0 41 0) fun m3 => fX9_goesEager_18 N XF a0 a1 1 1 m3
def fX9_isOrder_37 (N : Nat → Nat) (r15 : Int32 → Int32 → Int32 → Int32 → Int32 → XM → Option (Int32 × XM)) (x1 : Int32) (x3 : Int32) (x4 : Int32) (x5 : Int32) (s0 : Int32) (s1 : Int32) (m0 : XM) : Option (Int32 × XM) :=
    xv (s0 ||| s1 : Int32) fun v1 => xdv 10 <| xv (x3 / 10 : Int32) fun v2 => xv (x5 + 1) fun v3 => r15 x1 v1 v2 x4 v3 m0
def fX9_isOrder_72 (N : Nat → Nat) (m0 : XM) : Option (Int32 × XM) :=
    some (0, m0)
def fX9_isOrder_15 (N : Nat → Nat) : Nat → Int32 → Int32 → Int32 → Int32 → Int32 → XM → Option (Int32 × XM)
  | 0, _, _, _, _, _, _ => none
  | n + 1, x1, x2, x3, x4, x5, m0 => xv (fun x1 x2 x3 x4 x5 m0 => fX9_isOrder_15 N n x1 x2 x3 x4 x5 m0) fun r15 =>
    if x4 ≤ (x5 : Int32) then (if (x1 : Int32) < 0 then (fX9_isOrder_72 N m0) else (if (x3 : Int32) = 0 then (xv (1 <<< (x4 &&& 31) : Int32) fun v1 => xv (v1 - 1 : Int32) fun v2 => if (x2 : Int32) = v2 then (some (1, m0)) else (fX9_isOrder_72 N m0)) else (fX9_isOrder_72 N m0))) else (if 0 ≤ (x3 : Int32) then (xdv 10 <| xv (xrem x3 10) fun v3 => xv (1 <<< (v3 &&& 31) : Int32) fun v4 => fX9_isOrder_37 N r15 x1 x3 x4 x5 x2 v4 m0) else (fX9_isOrder_37 N r15 x1 x3 x4 x5 x2 0 m0))
def fX9_isOrder (N : Nat → Nat) (a0 : Nat) (a1 : Int32) (m0 : XM) : Option (Int32 × XM) :=
    xgr m0 a0 9 fun u1 => xald N m0 u1 0 fun v2 => fX9_isOrder_15 N XF a1 0 a1 v2 0 m0
def fX9_told_59 (N : Nat → Nat) (r34 : Nat → Int32 → Int32 → Int32 → XM → Option (Int32 × XM)) (q0 : Nat) (x1 : Int32) (x3 : Int32) (s0 : Int32) (s1 : Int32) (m0 : XM) : Option (Int32 × XM) :=
    xv (s0 + s1 : Int32) fun v1 => xv (x3 + 1) fun v2 => r34 q0 x1 v1 v2 m0
def fX9_told_34 (N : Nat → Nat) : Nat → Nat → Int32 → Int32 → Int32 → XM → Option (Int32 × XM)
  | 0, _, _, _, _, _ => none
  | n + 1, q0, x1, x2, x3, m0 => xv (fun q0 x1 x2 x3 m0 => fX9_told_34 N n q0 x1 x2 x3 m0) fun r34 =>
    xgr m0 q0 9 fun u1 => xald N m0 u1 1 fun v2 => if v2 ≤ (x3 : Int32) then (if (x1 : Int32) = 0 then (xgr m0 q0 9 fun u9 => xald N m0 u9 0 fun v10 => some (v10, m0)) else (if (x1 : Int32) = 1 then (xgr m0 q0 9 fun u7 => xald N m0 u7 4 fun v8 => some (v8, m0)) else (if (x1 : Int32) = 2 then (xgr m0 q0 9 fun u5 => xald N m0 u5 1 fun v6 => some (v6, m0)) else (if (x1 : Int32) = 3 then (some (x2, m0)) else (if (x1 : Int32) = 4 then (xv (gi m0 q0 2) fun v4 => some (v4, m0)) else (xv (gi m0 q0 15) fun v3 => some (v3, m0))))))) else (xgr m0 q0 11 fun u11 => xald N m0 u11 x3 fun v12 => if (v12 : Int32) = 0 then (fX9_told_59 N r34 q0 x1 x3 x2 1 m0) else (fX9_told_59 N r34 q0 x1 x3 x2 0 m0))
def fX9_told_20 (N : Nat → Nat) (q0 : Nat) (x1 : Int32) (p0 : Nat) (s1 : Int32) (m0 : XM) : Option (Int32 × XM) :=
    xca (fX9_bad N p0 s1 1 1 m0) fun v2 m1 => if (v2 : Int32) = 0 then (fX9_told_34 N XF q0 x1 0 0 m1) else (some (0, m1))
def fX9_told (N : Nat → Nat) (a0 : Nat) (a1 : Int32) (m0 : XM) : Option (Int32 × XM) :=
    xv (si m0 a0 0 0) fun m1 => xca (fX9_in N a1 0 5 m1) fun v3 m2 => if (v3 : Int32) = 0 then (fX9_told_20 N a0 a1 a0 1 m2) else (fX9_told_20 N a0 a1 a0 0 m2)
def fX9_manyOf_47 (N : Nat → Nat) (r5 : Nat → Int32 → Int32 → Int32 → Int32 → XM → Option (Int32 × XM)) (q0 : Nat) (x1 : Int32) (x2 : Int32) (x4 : Int32) (s0 : Int32) (s1 : Int32) (m0 : XM) : Option (Int32 × XM) :=
    xv (s0 + s1 : Int32) fun v1 => xv (x4 + 1) fun v2 => r5 q0 x1 x2 v1 v2 m0
def fX9_manyOf_5 (N : Nat → Nat) : Nat → Nat → Int32 → Int32 → Int32 → Int32 → XM → Option (Int32 × XM)
  | 0, _, _, _, _, _, _ => none
  | n + 1, q0, x1, x2, x3, x4, m0 => xv (fun q0 x1 x2 x3 x4 m0 => fX9_manyOf_5 N n q0 x1 x2 x3 x4 m0) fun r5 =>
    xgr m0 q0 9 fun u1 => xca (fX9_unitOf N u1 x1 2 m0) fun v3 m2 => if v3 ≤ (x4 : Int32) then (some (x3, m2)) else (xgr m2 q0 9 fun u4 => xgr m2 q0 9 fun u5 => xca (fX9_memberAt N u5 x1 x4 m2) fun v7 m6 => xca (fX9_ofMember N u4 v7 0 m6) fun v9 m8 => if (v9 : Int32) = x2 then (fX9_manyOf_47 N r5 q0 x1 x2 x4 x3 1 m8) else (fX9_manyOf_47 N r5 q0 x1 x2 x4 x3 0 m8))
def fX9_manyOf (N : Nat → Nat) (a0 : Nat) (a1 : Int32) (a2 : Int32) (m0 : XM) : Option (Int32 × XM) :=
    fX9_manyOf_5 N XF a0 a1 a2 0 0 m0
def fX9_unit_81 (N : Nat → Nat) (p0 : Nat) (s1 : Int32) (s2 : Int32) (m0 : XM) : Option (Int32 × XM) :=
    xca (fX9_manyOf N p0 s1 s2 m0) fun v2 m1 => some (v2, m1)
def fX9_unit_42 (N : Nat → Nat) (q0 : Nat) (x1 : Int32) (x2 : Int32) (p0 : Nat) (s1 : Int32) (m0 : XM) : Option (Int32 × XM) :=
    xca (fX9_bad N p0 s1 2 1 m0) fun v2 m1 => if (v2 : Int32) = 0 then (if 3 ≤ (x2 : Int32) then (if (x2 : Int32) = 3 then (fX9_unit_81 N q0 x1 1 m1) else (fX9_unit_81 N q0 x1 4 m1)) else (xgr m1 q0 9 fun u3 => xca (fX9_unitOf N u3 x1 x2 m1) fun v5 m4 => some (v5, m4))) else (some (0, m1))
def fX9_unit_19 (N : Nat → Nat) (q0 : Nat) (x1 : Int32) (x2 : Int32) (p0 : Nat) (s1 : Int32) (m0 : XM) : Option (Int32 × XM) :=
    xca (fX9_bad N p0 s1 1 0 m0) fun v2 m1 => if (v2 : Int32) = 0 then (xca (fX9_in N x2 0 4 m1) fun v4 m3 => if (v4 : Int32) = 0 then (fX9_unit_42 N q0 x1 x2 q0 1 m3) else (fX9_unit_42 N q0 x1 x2 q0 0 m3)) else (some (0, m1))
def fX9_unit (N : Nat → Nat) (a0 : Nat) (a1 : Int32) (a2 : Int32) (m0 : XM) : Option (Int32 × XM) :=
    xv (si m0 a0 0 0) fun m1 => xca (fX9_isUnit N a0 a1 m1) fun v3 m2 => if (v3 : Int32) = 0 then (fX9_unit_19 N a0 a1 a2 a0 1 m2) else (fX9_unit_19 N a0 a1 a2 a0 0 m2)
def fX9_termsOf_40 (N : Nat → Nat) (R : Nat → Nat → Int32 → XM → Option (Int32 × XM)) (r4 : Nat → Int32 → Int32 → XM → Option (Int32 × XM)) (q0 : Nat) (x3 : Int32) (s0 : Int32) (s1 : Int32) (m0 : XM) : Option (Int32 × XM) :=
    xv (s0 + s1 : Int32) fun v1 => xgr m0 q0 9 fun u2 => xca (fX9_ofTerm N u2 x3 4 m0) fun v4 m3 => r4 q0 v1 v4 m3
def fX9_termsOf_4 (N : Nat → Nat) (R : Nat → Nat → Int32 → XM → Option (Int32 × XM)) : Nat → Nat → Int32 → Int32 → XM → Option (Int32 × XM)
  | 0, _, _, _, _ => none
  | n + 1, q0, x2, x3, m0 => xv (fun q0 x2 x3 m0 => fX9_termsOf_4 N R n q0 x2 x3 m0) fun r4 =>
    if (x3 : Int32) = (-1) then (some (x2, m0)) else (xgr m0 q0 9 fun u1 => xca (fX9_ofTerm N u1 x3 1 m0) fun v3 m2 => if (v3 : Int32) = 4 then (xgr m2 q0 9 fun u4 => xca (fX9_ofTerm N u4 x3 2 m2) fun v6 m5 => xca (R 0 q0 v6 m5) fun v8 m7 => fX9_termsOf_40 N R r4 q0 x3 x2 v8 m7) else (fX9_termsOf_40 N R r4 q0 x3 x2 1 m2))
def fX9_termsOf (N : Nat → Nat) (R : Nat → Nat → Int32 → XM → Option (Int32 × XM)) (a0 : Nat) (a1 : Int32) (m0 : XM) : Option (Int32 × XM) :=
    fX9_termsOf_4 N R XF a0 0 a1 m0
def gX9_termsOf (N : Nat → Nat) : Nat → Nat → Nat → Int32 → XM → Option (Int32 × XM)
  | 0, _, _, _, _ => none
  | e + 1, t, q, x0, m0 => xv (fun t q x0 m0 => gX9_termsOf N e t q x0 m0) fun R =>
    if t = 0 then fX9_termsOf N R q x0 m0 else none
def fX9_member_214 (N : Nat → Nat) (p0 : Nat) (s1 : Int32) (m0 : XM) : Option (Int32 × XM) :=
    xca (gX9_termsOf N 40 0 p0 s1 m0) fun v2 m1 => some (v2, m1)
def fX9_member_199 (N : Nat → Nat) (q0 : Nat) (x6 : Int32) (p0 : Nat) (m0 : XM) : Option (Int32 × XM) :=
    xgr m0 q0 9 fun u1 => xca (fX9_ofAct N u1 x6 2 m0) fun v3 m2 => fX9_member_214 N p0 v3 m2
def fX9_member_43 (N : Nat → Nat) (q0 : Nat) (x1 : Int32) (x2 : Int32) (x3 : Int32) (p0 : Nat) (s1 : Int32) (m0 : XM) : Option (Int32 × XM) :=
    xca (fX9_bad N p0 s1 2 1 m0) fun v2 m1 => if (v2 : Int32) = 0 then (xgr m1 q0 9 fun u3 => xca (fX9_memberAt N u3 x1 x2 m1) fun v5 m4 => xgr m4 q0 9 fun u6 => xca (fX9_ofMember N u6 v5 0 m4) fun v8 m7 => xgr m7 q0 9 fun u9 => xca (fX9_ofMember N u9 v5 2 m7) fun v11 m10 => if (x3 : Int32) = 0 then (some (v8, m10)) else (if (x3 : Int32) = 1 then (xgr m10 q0 11 fun u14 => xald N m10 u14 v5 fun v15 => if (v15 : Int32) = 0 then (some (1, m10)) else (some (0, m10))) else (if (x3 : Int32) = 2 then (if (v8 : Int32) = 3 then (xgr m10 q0 9 fun u20 => xgr m10 q0 9 fun u21 => xca (fX9_ofAct N u21 v11 1 m10) fun v23 m22 => xca (fX9_ofMember N u20 v23 1 m22) fun v25 m24 => some (v25, m24)) else (xgr m10 q0 9 fun u17 => xca (fX9_ofMember N u17 v5 1 m10) fun v19 m18 => some (v19, m18))) else (if (x3 : Int32) = 3 then (if (v8 : Int32) = 0 then (some (0, m10)) else (if (v8 : Int32) = 2 then (fX9_member_199 N q0 v11 q0 m10) else (if (v8 : Int32) = 3 then (fX9_member_199 N q0 v11 q0 m10) else (fX9_member_214 N q0 v11 m10)))) else (if (v8 : Int32) = 0 then (some (v11, m10)) else (if (v8 : Int32) = 3 then (xgr m10 q0 9 fun u30 => xca (fX9_ofAct N u30 v11 0 m10) fun v32 m31 => some (v32, m31)) else (if (v8 : Int32) = 4 then (xgr m10 q0 9 fun u27 => xca (fX9_ofMember N u27 v5 3 m10) fun v29 m28 => some (v29, m28)) else (some ((-1), m10))))))))) else (some (0, m1))
def fX9_member_20 (N : Nat → Nat) (q0 : Nat) (x1 : Int32) (x2 : Int32) (x3 : Int32) (p0 : Nat) (s1 : Int32) (m0 : XM) : Option (Int32 × XM) :=
    xca (fX9_bad N p0 s1 1 0 m0) fun v2 m1 => if (v2 : Int32) = 0 then (xca (fX9_in N x3 0 4 m1) fun v4 m3 => if (v4 : Int32) = 0 then (fX9_member_43 N q0 x1 x2 x3 q0 1 m3) else (fX9_member_43 N q0 x1 x2 x3 q0 0 m3)) else (some (0, m1))
def fX9_member (N : Nat → Nat) (a0 : Nat) (a1 : Int32) (a2 : Int32) (a3 : Int32) (m0 : XM) : Option (Int32 × XM) :=
    xv (si m0 a0 0 0) fun m1 => xca (fX9_isMember N a0 a1 a2 m1) fun v3 m2 => if (v3 : Int32) = 0 then (fX9_member_20 N a0 a1 a2 a3 a0 1 m2) else (fX9_member_20 N a0 a1 a2 a3 a0 0 m2)
def fX9_statesOf_30 (N : Nat → Nat) (r4 : Nat → Int32 → Int32 → Int32 → XM → Option (Int32 × XM)) (q0 : Nat) (x1 : Int32) (x3 : Int32) (s0 : Int32) (s1 : Int32) (m0 : XM) : Option (Int32 × XM) :=
    xv (s0 + s1 : Int32) fun v1 => xv (x3 + 1) fun v2 => r4 q0 x1 v1 v2 m0
def fX9_statesOf_4 (N : Nat → Nat) : Nat → Nat → Int32 → Int32 → Int32 → XM → Option (Int32 × XM)
  | 0, _, _, _, _, _ => none
  | n + 1, q0, x1, x2, x3, m0 => xv (fun q0 x1 x2 x3 m0 => fX9_statesOf_4 N n q0 x1 x2 x3 m0) fun r4 =>
    xgr m0 q0 9 fun u1 => xald N m0 u1 0 fun v2 => if v2 ≤ (x3 : Int32) then (some (x2, m0)) else (xgr m0 q0 18 fun u3 => xald N m0 u3 x3 fun v4 => if (v4 : Int32) = x1 then (fX9_statesOf_30 N r4 q0 x1 x3 x2 1 m0) else (fX9_statesOf_30 N r4 q0 x1 x3 x2 0 m0))
def fX9_statesOf (N : Nat → Nat) (a0 : Nat) (a1 : Int32) (m0 : XM) : Option (Int32 × XM) :=
    fX9_statesOf_4 N XF a0 a1 0 0 m0
def fX9_tells (N : Nat → Nat) (a0 : Nat) (a1 : Int32) (m0 : XM) : Option (Int32 × XM) :=
    if (a1 : Int32) = 0 then (xv (gi m0 a0 31) fun v2 => some (v2, m0)) else (if (a1 : Int32) = 1 then (xv (gi m0 a0 32) fun v4 => some (v4, m0)) else (if (a1 : Int32) = 2 then (xv (gi m0 a0 33) fun v6 => some (v6, m0)) else (if (a1 : Int32) = 3 then (xv (gi m0 a0 27) fun v8 => some (v8, m0)) else (if (a1 : Int32) = 4 then (xca (fX9_statesOf N a0 2 m0) fun v11 m10 => some (v11, m10)) else (if (a1 : Int32) = 5 then (xca (fX9_statesOf N a0 3 m0) fun v14 m13 => some (v14, m13)) else (if (a1 : Int32) = 6 then (xv (gi m0 a0 29) fun v16 => some (v16, m0)) else (xv (gi m0 a0 30) fun v17 => if (v17 : Int32) = 2 then (some (1, m0)) else (some (0, m0)))))))))
def fX9_lazy_21 (N : Nat → Nat) (q0 : Nat) (x1 : Int32) (p0 : Nat) (s1 : Int32) (m0 : XM) : Option (Int32 × XM) :=
    xca (fX9_bad N p0 s1 1 1 m0) fun v2 m1 => if (v2 : Int32) = 0 then (xcv (fX9_lays N q0 m1) fun m3 => xca (fX9_tells N q0 x1 m3) fun v5 m4 => some (v5, m4)) else (some (0, m1))
def fX9_lazy (N : Nat → Nat) (a0 : Nat) (a1 : Int32) (m0 : XM) : Option (Int32 × XM) :=
    xv (si m0 a0 0 0) fun m1 => xca (fX9_in N a1 0 7 m1) fun v3 m2 => if (v3 : Int32) = 0 then (fX9_lazy_21 N a0 a1 a0 1 m2) else (fX9_lazy_21 N a0 a1 a0 0 m2)
def fX9_eager_29 (N : Nat → Nat) (q0 : Nat) (x1 : Int32) (x2 : Int32) (p0 : Nat) (s1 : Int32) (m0 : XM) : Option (Int32 × XM) :=
    xca (fX9_bad N p0 s1 1 1 m0) fun v2 m1 => if (v2 : Int32) = 0 then (xcv (fX9_goesEager N q0 x1 m1) fun m3 => xca (fX9_tells N q0 x2 m3) fun v5 m4 => some (v5, m4)) else (some (0, m1))
def fX9_eager_24 (N : Nat → Nat) (q0 : Nat) (x1 : Int32) (x2 : Int32) (p0 : Nat) (m0 : XM) : Option (Int32 × XM) :=
    fX9_eager_29 N q0 x1 x2 p0 1 m0
def fX9_eager (N : Nat → Nat) (a0 : Nat) (a1 : Int32) (a2 : Int32) (m0 : XM) : Option (Int32 × XM) :=
    xv (si m0 a0 0 0) fun m1 => xca (fX9_isOrder N a0 a1 m1) fun v3 m2 => if (v3 : Int32) = 0 then (fX9_eager_24 N a0 a1 a2 a0 m2) else (xca (fX9_in N a2 0 7 m2) fun v5 m4 => if (v5 : Int32) = 0 then (fX9_eager_24 N a0 a1 a2 a0 m4) else (fX9_eager_29 N a0 a1 a2 a0 0 m4))
def fX9_value_55 (N : Nat → Nat) (q0 : Nat) (x3 : Int32) (p0 : Nat) (s1 : Int32) (m0 : XM) : Option (Int32 × XM) :=
    xca (fX9_bad N p0 s1 1 0 m0) fun v2 m1 => if (v2 : Int32) = 0 then (xcv (fX9_lays N q0 m1) fun m3 => xgr m3 q0 20 fun u4 => xald N m3 u4 x3 fun v5 => some (v5, m3)) else (some (0, m1))
def fX9_value_50 (N : Nat → Nat) (q0 : Nat) (x3 : Int32) (p0 : Nat) (m0 : XM) : Option (Int32 × XM) :=
    fX9_value_55 N q0 x3 p0 1 m0
def fX9_value_26 (N : Nat → Nat) (q0 : Nat) (s0 : Int32) (m0 : XM) : Option (Int32 × XM) :=
    if (s0 : Int32) = (-1) then (fX9_value_50 N q0 s0 q0 m0) else (xgr m0 q0 9 fun u1 => xca (fX9_more N 0 s0 m0) fun v3 m2 => xca (fX9_ofMember N u1 v3 0 m2) fun v5 m4 => if (v5 : Int32) = 1 then (fX9_value_55 N q0 s0 q0 0 m4) else (fX9_value_50 N q0 s0 q0 m4))
def fX9_value (N : Nat → Nat) (a0 : Nat) (a1 : Int32) (a2 : Int32) (m0 : XM) : Option (Int32 × XM) :=
    xv (si m0 a0 0 0) fun m1 => xca (fX9_isUnit N a0 a1 m1) fun v3 m2 => if (v3 : Int32) = 0 then (fX9_value_26 N a0 (-1) m2) else (xgr m2 a0 9 fun u4 => xca (fX9_named N u4 a1 a2 m2) fun v6 m5 => fX9_value_26 N a0 v6 m5)
def fX9_state_19 (N : Nat → Nat) (q0 : Nat) (x1 : Int32) (p0 : Nat) (s1 : Int32) (m0 : XM) : Option (Int32 × XM) :=
    xca (fX9_bad N p0 s1 1 0 m0) fun v2 m1 => if (v2 : Int32) = 0 then (xcv (fX9_lays N q0 m1) fun m3 => xgr m3 q0 18 fun u4 => xald N m3 u4 x1 fun v5 => some (v5, m3)) else (some (0, m1))
def fX9_state (N : Nat → Nat) (a0 : Nat) (a1 : Int32) (m0 : XM) : Option (Int32 × XM) :=
    xv (si m0 a0 0 0) fun m1 => xca (fX9_isUnit N a0 a1 m1) fun v3 m2 => if (v3 : Int32) = 0 then (fX9_state_19 N a0 a1 a0 1 m2) else (fX9_state_19 N a0 a1 a0 0 m2)
def fX9_begun (N : Nat → Nat) (a0 : Nat) (a1 : Int32) (m0 : XM) : Option (Int32 × XM) :=
    xv (si m0 a0 0 0) fun m1 => xcv (fX9_lays N a0 m1) fun m2 => xv (gi m2 a0 27) fun v3 => xv (v3 - 1 : Int32) fun v4 => xca (fX9_in N a1 0 v4 m2) fun v6 m5 => if (v6 : Int32) = 0 then (some ((-1), m5)) else (xgr m5 a0 19 fun u7 => xald N m5 u7 a1 fun v8 => some (v8, m5))
def fX9_surprise_52 (N : Nat → Nat) (q0 : Nat) (x1 : Int32) (x2 : Int32) (p0 : Nat) (s1 : Int32) (m0 : XM) : Option (Int32 × XM) :=
    xca (fX9_bad N p0 s1 2 1 m0) fun v2 m1 => if (v2 : Int32) = 0 then (xgr m1 q0 38 fun u3 => xv (6 * x1 : Int32) fun v4 => xv (v4 + x2 : Int32) fun v5 => xald N m1 u3 v5 fun v6 => some (v6, m1)) else (some (0, m1))
def fX9_surprise_29 (N : Nat → Nat) (q0 : Nat) (x1 : Int32) (x2 : Int32) (p0 : Nat) (s1 : Int32) (m0 : XM) : Option (Int32 × XM) :=
    xca (fX9_bad N p0 s1 1 0 m0) fun v2 m1 => if (v2 : Int32) = 0 then (xca (fX9_in N x2 0 5 m1) fun v4 m3 => if (v4 : Int32) = 0 then (fX9_surprise_52 N q0 x1 x2 q0 1 m3) else (fX9_surprise_52 N q0 x1 x2 q0 0 m3)) else (some (0, m1))
def fX9_surprise (N : Nat → Nat) (a0 : Nat) (a1 : Int32) (a2 : Int32) (m0 : XM) : Option (Int32 × XM) :=
    xv (si m0 a0 0 0) fun m1 => xcv (fX9_lays N a0 m1) fun m2 => xv (gi m2 a0 31) fun v3 => xv (v3 - 1 : Int32) fun v4 => xca (fX9_in N a1 0 v4 m2) fun v6 m5 => if (v6 : Int32) = 0 then (fX9_surprise_29 N a0 a1 a2 a0 1 m5) else (fX9_surprise_29 N a0 a1 a2 a0 0 m5)
def fX9_trace_29 (N : Nat → Nat) (q0 : Nat) (x1 : Int32) (x2 : Int32) (p0 : Nat) (s1 : Int32) (m0 : XM) : Option (Int32 × XM) :=
    xca (fX9_bad N p0 s1 1 0 m0) fun v2 m1 => if (v2 : Int32) = 0 then (xgr m1 q0 38 fun u3 => xv (6 * x1 : Int32) fun v4 => xv (v4 + 4 : Int32) fun v5 => xald N m1 u3 v5 fun v6 => xv (v6 - 1 : Int32) fun v7 => xca (fX9_in N x2 0 v7 m1) fun v9 m8 => if (v9 : Int32) = 0 then (some ((-1), m8)) else (xgr m8 q0 39 fun u10 => xv (20 * x1 : Int32) fun v11 => xv (v11 + x2 : Int32) fun v12 => xald N m8 u10 v12 fun v13 => xv (100 * v13 : Int32) fun v14 => xgr m8 q0 40 fun u15 => xv (20 * x1 : Int32) fun v16 => xv (v16 + x2 : Int32) fun v17 => xald N m8 u15 v17 fun v18 => xv (v14 + v18 : Int32) fun v19 => some (v19, m8))) else (some (0, m1))
def fX9_trace (N : Nat → Nat) (a0 : Nat) (a1 : Int32) (a2 : Int32) (m0 : XM) : Option (Int32 × XM) :=
    xv (si m0 a0 0 0) fun m1 => xcv (fX9_lays N a0 m1) fun m2 => xv (gi m2 a0 31) fun v3 => xv (v3 - 1 : Int32) fun v4 => xca (fX9_in N a1 0 v4 m2) fun v6 m5 => if (v6 : Int32) = 0 then (fX9_trace_29 N a0 a1 a2 a0 1 m5) else (fX9_trace_29 N a0 a1 a2 a0 0 m5)
def fX9_broken_42 (N : Nat → Nat) (q0 : Nat) (x1 : Int32) (x2 : Int32) (p0 : Nat) (s1 : Int32) (m0 : XM) : Option (Int32 × XM) :=
    xca (fX9_bad N p0 s1 2 1 m0) fun v2 m1 => if (v2 : Int32) = 0 then (xcv (fX9_lays N q0 m1) fun m3 => if (x2 : Int32) = 0 then (xgr m3 q0 21 fun u8 => xald N m3 u8 x1 fun v9 => some (v9, m3)) else (if (x2 : Int32) = 1 then (xgr m3 q0 22 fun u6 => xald N m3 u6 x1 fun v7 => some (v7, m3)) else (xgr m3 q0 23 fun u4 => xald N m3 u4 x1 fun v5 => some (v5, m3)))) else (some (0, m1))
def fX9_broken_19 (N : Nat → Nat) (q0 : Nat) (x1 : Int32) (x2 : Int32) (p0 : Nat) (s1 : Int32) (m0 : XM) : Option (Int32 × XM) :=
    xca (fX9_bad N p0 s1 1 0 m0) fun v2 m1 => if (v2 : Int32) = 0 then (xca (fX9_in N x2 0 2 m1) fun v4 m3 => if (v4 : Int32) = 0 then (fX9_broken_42 N q0 x1 x2 q0 1 m3) else (fX9_broken_42 N q0 x1 x2 q0 0 m3)) else (some (0, m1))
def fX9_broken (N : Nat → Nat) (a0 : Nat) (a1 : Int32) (a2 : Int32) (m0 : XM) : Option (Int32 × XM) :=
    xv (si m0 a0 0 0) fun m1 => xca (fX9_isUnit N a0 a1 m1) fun v3 m2 => if (v3 : Int32) = 0 then (fX9_broken_19 N a0 a1 a2 a0 1 m2) else (fX9_broken_19 N a0 a1 a2 a0 0 m2)
def fX9_alike_203 (N : Nat → Nat) (r121 : Nat → Int32 → XM → Option (Int32 × XM)) (r134 : Nat → Int32 → Int32 → XM → Option (Int32 × XM)) (q0 : Nat) (x3 : Int32) (x4 : Int32) (m0 : XM) : Option (Int32 × XM) :=
    xv (x4 + 1) fun v1 => r134 q0 x3 v1 m0
def fX9_alike_209 (N : Nat → Nat) (r121 : Nat → Int32 → XM → Option (Int32 × XM)) (q0 : Nat) (x3 : Int32) (m0 : XM) : Option (Int32 × XM) :=
    xv (x3 + 1) fun v1 => r121 q0 v1 m0
def fX9_alike_134 (N : Nat → Nat) (r121 : Nat → Int32 → XM → Option (Int32 × XM)) : Nat → Nat → Int32 → Int32 → XM → Option (Int32 × XM)
  | 0, _, _, _, _ => none
  | n + 1, q0, x3, x4, m0 => xv (fun q0 x3 x4 m0 => fX9_alike_134 N r121 n q0 x3 x4 m0) fun r134 =>
    xgr m0 q0 9 fun u1 => xca (fX9_unitOf N u1 x3 2 m0) fun v3 m2 => if v3 ≤ (x4 : Int32) then (fX9_alike_209 N r121 q0 x3 m2) else (xgr m2 q0 43 fun u4 => xald N m2 u4 x3 fun v5 => if (v5 : Int32) = 2 then (xgr m2 q0 9 fun u6 => xca (fX9_memberAt N u6 x3 x4 m2) fun v8 m7 => xgr m7 q0 9 fun u9 => xca (fX9_ofMember N u9 v8 0 m7) fun v11 m10 => if (v11 : Int32) = 1 then (xgr m10 q0 20 fun u12 => xald N m10 u12 v8 fun v13 => xgr m10 q0 42 fun u14 => xald N m10 u14 v8 fun v15 => if (v13 : Int32) = v15 then (fX9_alike_203 N r121 r134 q0 x3 x4 m10) else (some (0, m10))) else (fX9_alike_203 N r121 r134 q0 x3 x4 m10)) else (fX9_alike_209 N r121 q0 x3 m2))
def fX9_alike_121 (N : Nat → Nat) : Nat → Nat → Int32 → XM → Option (Int32 × XM)
  | 0, _, _, _ => none
  | n + 1, q0, x3, m0 => xv (fun q0 x3 m0 => fX9_alike_121 N n q0 x3 m0) fun r121 =>
    xgr m0 q0 9 fun u1 => xald N m0 u1 0 fun v2 => if v2 ≤ (x3 : Int32) then (some (1, m0)) else (fX9_alike_134 N r121 XF q0 x3 0 m0)
def fX9_alike_75 (N : Nat → Nat) : Nat → Nat → Int32 → Int32 → Int32 → XM → Option (Int32 × XM)
  | 0, _, _, _, _, _ => none
  | n + 1, q0, x1, x2, x3, m0 => xv (fun q0 x1 x2 x3 m0 => fX9_alike_75 N n q0 x1 x2 x3 m0) fun r75 =>
    if 7 ≤ (x3 : Int32) then (xcv (fX9_goesEager N q0 x1 m0) fun m1 => if (x2 : Int32) = 0 then (xv (gi m1 q0 30) fun v2 => if (v2 : Int32) = 2 then (some ((-2), m1)) else (fX9_alike_121 N XF q0 0 m1)) else (some ((-2), m1))) else (xgr m0 q0 43 fun u3 => xgr m0 q0 18 fun u4 => xald N m0 u4 x3 fun v5 => xast N m0 u3 x3 v5 fun m6 => xv (x3 + 1) fun v7 => r75 q0 x1 x2 v7 m6)
def fX9_alike_49 (N : Nat → Nat) : Nat → Nat → Int32 → Int32 → Int32 → XM → Option (Int32 × XM)
  | 0, _, _, _, _, _ => none
  | n + 1, q0, x1, x2, x3, m0 => xv (fun q0 x1 x2 x3 m0 => fX9_alike_49 N n q0 x1 x2 x3 m0) fun r49 =>
    if 84 ≤ (x3 : Int32) then (fX9_alike_75 N XF q0 x1 x2 0 m0) else (xgr m0 q0 42 fun u1 => xgr m0 q0 20 fun u2 => xald N m0 u2 x3 fun v3 => xast N m0 u1 x3 v3 fun m4 => xv (x3 + 1) fun v5 => r49 q0 x1 x2 v5 m4)
def fX9_alike_46 (N : Nat → Nat) (q0 : Nat) (x1 : Int32) (s0 : Int32) (m0 : XM) : Option (Int32 × XM) :=
    fX9_alike_49 N XF q0 x1 s0 0 m0
def fX9_alike_19 (N : Nat → Nat) (q0 : Nat) (x1 : Int32) (p0 : Nat) (s1 : Int32) (m0 : XM) : Option (Int32 × XM) :=
    xca (fX9_bad N p0 s1 1 1 m0) fun v2 m1 => if (v2 : Int32) = 0 then (xcv (fX9_lays N q0 m1) fun m3 => xv (gi m3 q0 30) fun v4 => if (v4 : Int32) = 2 then (fX9_alike_46 N q0 x1 1 m3) else (fX9_alike_46 N q0 x1 0 m3)) else (some (0, m1))
def fX9_alike (N : Nat → Nat) (a0 : Nat) (a1 : Int32) (m0 : XM) : Option (Int32 × XM) :=
    xv (si m0 a0 0 0) fun m1 => xca (fX9_isOrder N a0 a1 m1) fun v3 m2 => if (v3 : Int32) = 0 then (fX9_alike_19 N a0 a1 a0 1 m2) else (fX9_alike_19 N a0 a1 a0 0 m2)
def fX9_orderNow_4 (N : Nat → Nat) : Nat → Nat → Int32 → Int32 → XM → Option (Int32 × XM)
  | 0, _, _, _, _ => none
  | n + 1, q0, x1, x2, m0 => xv (fun q0 x1 x2 m0 => fX9_orderNow_4 N n q0 x1 x2 m0) fun r4 =>
    xgr m0 q0 9 fun u1 => xald N m0 u1 0 fun v2 => if v2 ≤ (x2 : Int32) then (some (x1, m0)) else (xv (10 * x1 : Int32) fun v3 => xgr m0 q0 44 fun u4 => xald N m0 u4 x2 fun v5 => xv (v3 + v5 : Int32) fun v6 => xv (x2 + 1) fun v7 => r4 q0 v6 v7 m0)
def fX9_orderNow (N : Nat → Nat) (a0 : Nat) (m0 : XM) : Option (Int32 × XM) :=
    fX9_orderNow_4 N XF a0 0 0 m0
def fX9_swaps (N : Nat → Nat) (a0 : Nat) (a1 : Int32) (a2 : Int32) (m0 : XM) : Option XM :=
    xgr m0 a0 44 fun u1 => xald N m0 u1 a1 fun v2 => xgr m0 a0 44 fun u3 => xgr m0 a0 44 fun u4 => xald N m0 u4 a2 fun v5 => xast N m0 u3 a1 v5 fun m6 => xgr m6 a0 44 fun u7 => xast N m6 u7 a2 v2 fun m8 => some m8
def fX9_nextOrder_85 (N : Nat → Nat) : Nat → Nat → Int32 → Int32 → XM → Option (Int32 × XM)
  | 0, _, _, _, _ => none
  | n + 1, q0, x4, x5, m0 => xv (fun q0 x4 x5 m0 => fX9_nextOrder_85 N n q0 x4 x5 m0) fun r85 =>
    if x5 ≤ (x4 : Int32) then (some (1, m0)) else (xcv (fX9_swaps N q0 x4 x5 m0) fun m1 => xv (x4 + 1) fun v2 => xv (x5 + (-1)) fun v3 => r85 q0 v2 v3 m1)
def fX9_nextOrder_48 (N : Nat → Nat) : Nat → Nat → Int32 → Int32 → Int32 → XM → Option (Int32 × XM)
  | 0, _, _, _, _, _ => none
  | n + 1, q0, x1, x2, x3, m0 => xv (fun q0 x1 x2 x3 m0 => fX9_nextOrder_48 N n q0 x1 x2 x3 m0) fun r48 =>
    xgr m0 q0 44 fun u1 => xald N m0 u1 x3 fun v2 => xgr m0 q0 44 fun u3 => xald N m0 u3 x2 fun v4 => if v4 ≤ (v2 : Int32) then (xcv (fX9_swaps N q0 x2 x3 m0) fun m5 => xv (x2 + 1 : Int32) fun v6 => xv (x1 - 1 : Int32) fun v7 => fX9_nextOrder_85 N XF q0 v6 v7 m5) else (xv (x3 + (-1)) fun v8 => r48 q0 x1 x2 v8 m0)
def fX9_nextOrder_38 (N : Nat → Nat) (q0 : Nat) (x1 : Int32) (x2 : Int32) (m0 : XM) : Option (Int32 × XM) :=
    if 0 ≤ (x2 : Int32) then (xv (x1 - 1 : Int32) fun v1 => fX9_nextOrder_48 N XF q0 x1 x2 v1 m0) else (some (0, m0))
def fX9_nextOrder_11 (N : Nat → Nat) : Nat → Nat → Int32 → Int32 → XM → Option (Int32 × XM)
  | 0, _, _, _, _ => none
  | n + 1, q0, x1, x2, m0 => xv (fun q0 x1 x2 m0 => fX9_nextOrder_11 N n q0 x1 x2 m0) fun r11 =>
    if (x2 : Int32) < 0 then (fX9_nextOrder_38 N q0 x1 x2 m0) else (xgr m0 q0 44 fun u1 => xald N m0 u1 x2 fun v2 => xgr m0 q0 44 fun u3 => xv (x2 + 1 : Int32) fun v4 => xald N m0 u3 v4 fun v5 => if (v2 : Int32) ≤ v5 then (fX9_nextOrder_38 N q0 x1 x2 m0) else (xv (x2 + (-1)) fun v6 => r11 q0 x1 v6 m0))
def fX9_nextOrder (N : Nat → Nat) (a0 : Nat) (m0 : XM) : Option (Int32 × XM) :=
    xgr m0 a0 9 fun u1 => xald N m0 u1 0 fun v2 => xv (v2 - 2 : Int32) fun v3 => fX9_nextOrder_11 N XF a0 v2 v3 m0
def fX9_firstOrder_2 (N : Nat → Nat) : Nat → Nat → Int32 → XM → Option XM
  | 0, _, _, _ => none
  | n + 1, q0, x1, m0 => xv (fun q0 x1 m0 => fX9_firstOrder_2 N n q0 x1 m0) fun r2 =>
    if 7 ≤ (x1 : Int32) then (some m0) else (xgr m0 q0 44 fun u1 => xast N m0 u1 x1 x1 fun m2 => xv (x1 + 1) fun v3 => r2 q0 v3 m2)
def fX9_firstOrder (N : Nat → Nat) (a0 : Nat) (m0 : XM) : Option XM :=
    fX9_firstOrder_2 N XF a0 0 m0
def fX9_fewest_112 (N : Nat → Nat) (r44 : Nat → Int32 → Int32 → Int32 → Int32 → Int32 → XM → Option (Int32 × XM)) (q0 : Nat) (x1 : Int32) (x2 : Int32) (x3 : Int32) (s0 : Int32) (s1 : Int32) (m0 : XM) : Option (Int32 × XM) :=
    xv (s0 + s1 : Int32) fun v1 => xca (fX9_nextOrder N q0 m0) fun v3 m2 => r44 q0 x1 x2 x3 v1 v3 m2
def fX9_fewest_99 (N : Nat → Nat) (r44 : Nat → Int32 → Int32 → Int32 → Int32 → Int32 → XM → Option (Int32 × XM)) (q0 : Nat) (x1 : Int32) (x2 : Int32) (x3 : Int32) (x4 : Int32) (x6 : Int32) (m0 : XM) : Option (Int32 × XM) :=
    if (x6 : Int32) = x2 then (fX9_fewest_112 N r44 q0 x1 x2 x3 x4 1 m0) else (fX9_fewest_112 N r44 q0 x1 x2 x3 x4 0 m0)
def fX9_fewest_88 (N : Nat → Nat) (r44 : Nat → Int32 → Int32 → Int32 → Int32 → Int32 → XM → Option (Int32 × XM)) (q0 : Nat) (x1 : Int32) (x6 : Int32) (m0 : XM) : Option (Int32 × XM) :=
    xca (fX9_orderNow N q0 m0) fun v2 m1 => fX9_fewest_99 N r44 q0 x1 x6 v2 0 x6 m1
def fX9_fewest_75 (N : Nat → Nat) (r44 : Nat → Int32 → Int32 → Int32 → Int32 → Int32 → XM → Option (Int32 × XM)) (q0 : Nat) (x1 : Int32) (x2 : Int32) (x3 : Int32) (x4 : Int32) (s0 : Int32) (m0 : XM) : Option (Int32 × XM) :=
    if (x2 : Int32) = (-1) then (fX9_fewest_88 N r44 q0 x1 s0 m0) else (if x2 ≤ (s0 : Int32) then (fX9_fewest_99 N r44 q0 x1 x2 x3 x4 s0 m0) else (fX9_fewest_88 N r44 q0 x1 s0 m0))
def fX9_fewest_44 (N : Nat → Nat) : Nat → Nat → Int32 → Int32 → Int32 → Int32 → Int32 → XM → Option (Int32 × XM)
  | 0, _, _, _, _, _, _, _ => none
  | n + 1, q0, x1, x2, x3, x4, x5, m0 => xv (fun q0 x1 x2 x3 x4 x5 m0 => fX9_fewest_44 N n q0 x1 x2 x3 x4 x5 m0) fun r44 =>
    if (x5 : Int32) = 0 then (if (x1 : Int32) = 0 then (some (x2, m0)) else (if (x1 : Int32) = 1 then (some (x3, m0)) else (some (x4, m0)))) else (xca (fX9_orderNow N q0 m0) fun v2 m1 => xcv (fX9_goesEager N q0 v2 m1) fun m3 => xv (gi m3 q0 30) fun v4 => if (v4 : Int32) = 2 then (fX9_fewest_75 N r44 q0 x1 x2 x3 x4 1000000 m3) else (xv (gi m3 q0 31) fun v5 => fX9_fewest_75 N r44 q0 x1 x2 x3 x4 v5 m3))
def fX9_fewest_20 (N : Nat → Nat) (q0 : Nat) (x1 : Int32) (p0 : Nat) (s1 : Int32) (m0 : XM) : Option (Int32 × XM) :=
    xca (fX9_bad N p0 s1 1 1 m0) fun v2 m1 => if (v2 : Int32) = 0 then (xcv (fX9_firstOrder N q0 m1) fun m3 => fX9_fewest_44 N XF q0 x1 (-1) (-1) 0 1 m3) else (some (0, m1))
def fX9_fewest (N : Nat → Nat) (a0 : Nat) (a1 : Int32) (m0 : XM) : Option (Int32 × XM) :=
    xv (si m0 a0 0 0) fun m1 => xca (fX9_in N a1 0 2 m1) fun v3 m2 => if (v3 : Int32) = 0 then (fX9_fewest_20 N a0 a1 a0 1 m2) else (fX9_fewest_20 N a0 a1 a0 0 m2)
def fX9_bySum_104 (N : Nat → Nat) (R : Nat → Nat → Int32 → XM → Option (Int32 × XM)) (r4 : Nat → Int32 → Int32 → XM → Option (Int32 × XM)) (q0 : Nat) (x2 : Int32) (x3 : Int32) (m0 : XM) : Option (Int32 × XM) :=
    xgr m0 q0 9 fun u1 => xca (fX9_ofTerm N u1 x3 4 m0) fun v3 m2 => r4 q0 x2 v3 m2
def fX9_bySum_84 (N : Nat → Nat) (R : Nat → Nat → Int32 → XM → Option (Int32 × XM)) (r4 : Nat → Int32 → Int32 → XM → Option (Int32 × XM)) (q0 : Nat) (x2 : Int32) (x3 : Int32) (x4 : Int32) (x5 : Int32) (x6 : Int32) (m0 : XM) : Option (Int32 × XM) :=
    if (x4 : Int32) = 2 then (xv (1 <<< (x5 &&& 31) : Int32) fun v1 => xca (R 2 q0 x6 m0) fun v3 m2 => xv (v1 ||| v3 : Int32) fun v4 => xv (x2 ||| v4 : Int32) fun v5 => fX9_bySum_104 N R r4 q0 v5 x3 m2) else (fX9_bySum_104 N R r4 q0 x2 x3 m0)
def fX9_bySum_57 (N : Nat → Nat) (R : Nat → Nat → Int32 → XM → Option (Int32 × XM)) (r4 : Nat → Int32 → Int32 → XM → Option (Int32 × XM)) (q0 : Nat) (x2 : Int32) (x3 : Int32) (x4 : Int32) (x5 : Int32) (x6 : Int32) (m0 : XM) : Option (Int32 × XM) :=
    if (x4 : Int32) = 1 then (xgr m0 q0 9 fun u1 => xca (fX9_ofMember N u1 x6 0 m0) fun v3 m2 => if (v3 : Int32) = 1 then (xv (1 <<< (x5 &&& 31) : Int32) fun v4 => xv (x2 ||| v4 : Int32) fun v5 => fX9_bySum_84 N R r4 q0 v5 x3 x4 x5 x6 m2) else (fX9_bySum_84 N R r4 q0 x2 x3 x4 x5 x6 m2)) else (fX9_bySum_84 N R r4 q0 x2 x3 x4 x5 x6 m0)
def fX9_bySum_4 (N : Nat → Nat) (R : Nat → Nat → Int32 → XM → Option (Int32 × XM)) : Nat → Nat → Int32 → Int32 → XM → Option (Int32 × XM)
  | 0, _, _, _, _ => none
  | n + 1, q0, x2, x3, m0 => xv (fun q0 x2 x3 m0 => fX9_bySum_4 N R n q0 x2 x3 m0) fun r4 =>
    if (x3 : Int32) = (-1) then (some (x2, m0)) else (xgr m0 q0 9 fun u1 => xca (fX9_ofTerm N u1 x3 1 m0) fun v3 m2 => xgr m2 q0 9 fun u4 => xca (fX9_ofTerm N u4 x3 2 m2) fun v6 m5 => xgr m5 q0 9 fun u7 => xca (fX9_ofTerm N u7 x3 3 m5) fun v9 m8 => if (v3 : Int32) = 4 then (xca (R 0 q0 v6 m8) fun v11 m10 => xv (x2 ||| v11 : Int32) fun v12 => fX9_bySum_57 N R r4 q0 v12 x3 v3 v6 v9 m10) else (fX9_bySum_57 N R r4 q0 x2 x3 v3 v6 v9 m8))
def fX9_bySum (N : Nat → Nat) (R : Nat → Nat → Int32 → XM → Option (Int32 × XM)) (a0 : Nat) (a1 : Int32) (m0 : XM) : Option (Int32 × XM) :=
    fX9_bySum_4 N R XF a0 0 a1 m0
def fX9_byAct (N : Nat → Nat) (R : Nat → Nat → Int32 → XM → Option (Int32 × XM)) (a0 : Nat) (a1 : Int32) (m0 : XM) : Option (Int32 × XM) :=
    xgr m0 a0 9 fun u1 => xca (fX9_ofAct N u1 a1 2 m0) fun v3 m2 => xca (R 0 a0 v3 m2) fun v5 m4 => xgr m4 a0 9 fun u6 => xca (fX9_ofAct N u6 a1 0 m4) fun v8 m7 => if (v8 : Int32) = (-1) then (xv (v5 ||| 0 : Int32) fun v14 => some (v14, m7)) else (xgr m7 a0 9 fun u9 => xca (fX9_ofAct N u9 a1 0 m7) fun v11 m10 => xv (1 <<< (v11 &&& 31) : Int32) fun v12 => xv (v5 ||| v12 : Int32) fun v13 => some (v13, m10))
def fX9_byFunction_34 (N : Nat → Nat) (R : Nat → Nat → Int32 → XM → Option (Int32 × XM)) : Nat → Nat → Int32 → Int32 → Int32 → XM → Option (Int32 × XM)
  | 0, _, _, _, _, _ => none
  | n + 1, q0, x1, x2, x3, m0 => xv (fun q0 x1 x2 x3 m0 => fX9_byFunction_34 N R n q0 x1 x2 x3 m0) fun r34 =>
    xgr m0 q0 9 fun u1 => xca (fX9_ofMember N u1 x1 3 m0) fun v3 m2 => if v3 ≤ (x3 : Int32) then (some (x2, m2)) else (xgr m2 q0 9 fun u4 => xca (fX9_ofMember N u4 x1 4 m2) fun v6 m5 => xv (v6 + x3 : Int32) fun v7 => xca (R 1 q0 v7 m5) fun v9 m8 => xv (x2 ||| v9 : Int32) fun v10 => xv (x3 + 1) fun v11 => r34 q0 x1 v10 v11 m8)
def fX9_byFunction (N : Nat → Nat) (R : Nat → Nat → Int32 → XM → Option (Int32 × XM)) (a0 : Nat) (a1 : Int32) (m0 : XM) : Option (Int32 × XM) :=
    xgr m0 a0 45 fun u1 => xald N m0 u1 a1 fun v2 => if (v2 : Int32) = 0 then (xgr m0 a0 45 fun u3 => xzst N m0 u3 a1 1 fun m4 => xgr m4 a0 9 fun u5 => xca (fX9_ofMember N u5 a1 2 m4) fun v7 m6 => xca (R 0 a0 v7 m6) fun v9 m8 => fX9_byFunction_34 N R XF a0 a1 v9 0 m8) else (some (0, m0))
def gX9_bySum (N : Nat → Nat) : Nat → Nat → Nat → Int32 → XM → Option (Int32 × XM)
  | 0, _, _, _, _ => none
  | e + 1, t, q, x0, m0 => xv (fun t q x0 m0 => gX9_bySum N e t q x0 m0) fun R =>
    if t = 0 then fX9_bySum N R q x0 m0 else if t = 1 then fX9_byAct N R q x0 m0 else if t = 2 then fX9_byFunction N R q x0 m0 else none
def fX9_touched_148 (N : Nat → Nat) (r52 : Nat → Int32 → Int32 → Int32 → XM → Option (Int32 × XM)) (q0 : Nat) (x1 : Int32) (x2 : Int32) (x3 : Int32) (m0 : XM) : Option (Int32 × XM) :=
    xv (x3 + 1) fun v1 => r52 q0 x1 x2 v1 m0
def fX9_touched_146 (N : Nat → Nat) (r52 : Nat → Int32 → Int32 → Int32 → XM → Option (Int32 × XM)) (q0 : Nat) (x1 : Int32) (x3 : Int32) (s0 : Int32) (s1 : Int32) (m0 : XM) : Option (Int32 × XM) :=
    xv (s0 ||| s1 : Int32) fun v1 => fX9_touched_148 N r52 q0 x1 v1 x3 m0
def fX9_touched_52 (N : Nat → Nat) : Nat → Nat → Int32 → Int32 → Int32 → XM → Option (Int32 × XM)
  | 0, _, _, _, _, _ => none
  | n + 1, q0, x1, x2, x3, m0 => xv (fun q0 x1 x2 x3 m0 => fX9_touched_52 N n q0 x1 x2 x3 m0) fun r52 =>
    xgr m0 q0 9 fun u1 => xca (fX9_unitOf N u1 x1 2 m0) fun v3 m2 => if v3 ≤ (x3 : Int32) then (some (x2, m2)) else (xgr m2 q0 9 fun u4 => xca (fX9_memberAt N u4 x1 x3 m2) fun v6 m5 => xgr m5 q0 9 fun u7 => xca (fX9_ofMember N u7 v6 0 m5) fun v9 m8 => xgr m8 q0 9 fun u10 => xca (fX9_ofMember N u10 v6 2 m8) fun v12 m11 => xgr m11 q0 11 fun u13 => xald N m11 u13 v6 fun v14 => if (v14 : Int32) = 0 then (if (v9 : Int32) = 0 then (fX9_touched_148 N r52 q0 x1 x2 x3 m11) else (if (v9 : Int32) = 4 then (fX9_touched_148 N r52 q0 x1 x2 x3 m11) else (if (v9 : Int32) = 1 then (xca (gX9_bySum N 1000 0 q0 v12 m11) fun v18 m17 => fX9_touched_146 N r52 q0 x1 x3 x2 v18 m17) else (xca (gX9_bySum N 1000 1 q0 v12 m11) fun v16 m15 => fX9_touched_146 N r52 q0 x1 x3 x2 v16 m15)))) else (fX9_touched_148 N r52 q0 x1 x2 x3 m11))
def fX9_touched_49 (N : Nat → Nat) (q0 : Nat) (x1 : Int32) (s0 : Int32) (m0 : XM) : Option (Int32 × XM) :=
    fX9_touched_52 N XF q0 x1 s0 0 m0
def fX9_touched_2 (N : Nat → Nat) : Nat → Nat → Int32 → Int32 → XM → Option (Int32 × XM)
  | 0, _, _, _, _ => none
  | n + 1, q0, x1, x2, m0 => xv (fun q0 x1 x2 m0 => fX9_touched_2 N n q0 x1 x2 m0) fun r2 =>
    if 84 ≤ (x2 : Int32) then (xgr m0 q0 9 fun u1 => xca (fX9_unitOf N u1 x1 1 m0) fun v3 m2 => if (v3 : Int32) = (-1) then (fX9_touched_49 N q0 x1 0 m2) else (xgr m2 q0 9 fun u4 => xca (fX9_unitOf N u4 x1 1 m2) fun v6 m5 => xv (1 <<< (v6 &&& 31) : Int32) fun v7 => fX9_touched_49 N q0 x1 v7 m5)) else (xgr m0 q0 45 fun u8 => xzst N m0 u8 x2 0 fun m9 => xv (x2 + 1) fun v10 => r2 q0 x1 v10 m9)
def fX9_touched (N : Nat → Nat) (a0 : Nat) (a1 : Int32) (m0 : XM) : Option (Int32 × XM) :=
    fX9_touched_2 N XF a0 a1 0 m0
def fX9_reached_48 (N : Nat → Nat) (r8 : Nat → Int32 → Int32 → XM → Option (Int32 × XM)) (r18 : Nat → Int32 → Int32 → Int32 → XM → Option (Int32 × XM)) (q0 : Nat) (x2 : Int32) (x3 : Int32) (x4 : Int32) (m0 : XM) : Option (Int32 × XM) :=
    xv (x4 + 1) fun v1 => r18 q0 x2 x3 v1 m0
def fX9_reached_18 (N : Nat → Nat) (r8 : Nat → Int32 → Int32 → XM → Option (Int32 × XM)) : Nat → Nat → Int32 → Int32 → Int32 → XM → Option (Int32 × XM)
  | 0, _, _, _, _, _ => none
  | n + 1, q0, x2, x3, x4, m0 => xv (fun q0 x2 x3 x4 m0 => fX9_reached_18 N r8 n q0 x2 x3 x4 m0) fun r18 =>
    xgr m0 q0 9 fun u1 => xald N m0 u1 0 fun v2 => if v2 ≤ (x4 : Int32) then (r8 q0 x2 x3 m0) else (xv (x3 >>> (x4 &&& 31) : Int32) fun v3 => xv (v3 &&& 1 : Int32) fun v4 => if (v4 : Int32) = 1 then (xca (fX9_touched N q0 x4 m0) fun v6 m5 => xv (x2 ||| v6 : Int32) fun v7 => fX9_reached_48 N r8 r18 q0 v7 x3 x4 m5) else (fX9_reached_48 N r8 r18 q0 x2 x3 x4 m0))
def fX9_reached_8 (N : Nat → Nat) : Nat → Nat → Int32 → Int32 → XM → Option (Int32 × XM)
  | 0, _, _, _, _ => none
  | n + 1, q0, x2, x3, m0 => xv (fun q0 x2 x3 m0 => fX9_reached_8 N n q0 x2 x3 m0) fun r8 =>
    if (x2 : Int32) = x3 then (some (x2, m0)) else (fX9_reached_18 N r8 XF q0 x2 x2 0 m0)
def fX9_reached (N : Nat → Nat) (a0 : Nat) (a1 : Int32) (m0 : XM) : Option (Int32 × XM) :=
    xca (fX9_touched N a0 a1 m0) fun v2 m1 => fX9_reached_8 N XF a0 v2 0 m1
def fX9_touches_19 (N : Nat → Nat) (q0 : Nat) (x1 : Int32) (p0 : Nat) (s1 : Int32) (m0 : XM) : Option (Int32 × XM) :=
    xca (fX9_bad N p0 s1 1 0 m0) fun v2 m1 => if (v2 : Int32) = 0 then (xca (fX9_touched N q0 x1 m1) fun v4 m3 => some (v4, m3)) else (some (0, m1))
def fX9_touches (N : Nat → Nat) (a0 : Nat) (a1 : Int32) (m0 : XM) : Option (Int32 × XM) :=
    xv (si m0 a0 0 0) fun m1 => xca (fX9_isUnit N a0 a1 m1) fun v3 m2 => if (v3 : Int32) = 0 then (fX9_touches_19 N a0 a1 a0 1 m2) else (fX9_touches_19 N a0 a1 a0 0 m2)
def fX9_reach_19 (N : Nat → Nat) (q0 : Nat) (x1 : Int32) (p0 : Nat) (s1 : Int32) (m0 : XM) : Option (Int32 × XM) :=
    xca (fX9_bad N p0 s1 1 0 m0) fun v2 m1 => if (v2 : Int32) = 0 then (xca (fX9_reached N q0 x1 m1) fun v4 m3 => some (v4, m3)) else (some (0, m1))
def fX9_reach (N : Nat → Nat) (a0 : Nat) (a1 : Int32) (m0 : XM) : Option (Int32 × XM) :=
    xv (si m0 a0 0 0) fun m1 => xca (fX9_isUnit N a0 a1 m1) fun v3 m2 => if (v3 : Int32) = 0 then (fX9_reach_19 N a0 a1 a0 1 m2) else (fX9_reach_19 N a0 a1 a0 0 m2)
def fX9_ring_82 (N : Nat → Nat) (r40 : Nat → Int32 → Int32 → Int32 → Int32 → XM → Option (Int32 × XM)) (q0 : Nat) (x1 : Int32) (x2 : Int32) (x3 : Int32) (x4 : Int32) (m0 : XM) : Option (Int32 × XM) :=
    xv (x4 + 1) fun v1 => r40 q0 x1 x2 x3 v1 m0
def fX9_ring_40 (N : Nat → Nat) : Nat → Nat → Int32 → Int32 → Int32 → Int32 → XM → Option (Int32 × XM)
  | 0, _, _, _, _, _, _ => none
  | n + 1, q0, x1, x2, x3, x4, m0 => xv (fun q0 x1 x2 x3 x4 m0 => fX9_ring_40 N n q0 x1 x2 x3 x4 m0) fun r40 =>
    xgr m0 q0 9 fun u1 => xald N m0 u1 0 fun v2 => if v2 ≤ (x4 : Int32) then (some (x3, m0)) else (xv (x2 >>> (x4 &&& 31) : Int32) fun v3 => xv (v3 &&& 1 : Int32) fun v4 => if (v4 : Int32) = 1 then (xca (fX9_reached N q0 x4 m0) fun v6 m5 => xv (v6 >>> (x1 &&& 31) : Int32) fun v7 => xv (v7 &&& 1 : Int32) fun v8 => if (v8 : Int32) = 1 then (xv (1 <<< (x4 &&& 31) : Int32) fun v9 => xv (x3 ||| v9 : Int32) fun v10 => fX9_ring_82 N r40 q0 x1 x2 v10 x4 m5) else (fX9_ring_82 N r40 q0 x1 x2 x3 x4 m5)) else (fX9_ring_82 N r40 q0 x1 x2 x3 x4 m0))
def fX9_ring_19 (N : Nat → Nat) (q0 : Nat) (x1 : Int32) (p0 : Nat) (s1 : Int32) (m0 : XM) : Option (Int32 × XM) :=
    xca (fX9_bad N p0 s1 1 0 m0) fun v2 m1 => if (v2 : Int32) = 0 then (xca (fX9_reached N q0 x1 m1) fun v4 m3 => fX9_ring_40 N XF q0 x1 v4 0 0 m3) else (some (0, m1))
def fX9_ring (N : Nat → Nat) (a0 : Nat) (a1 : Int32) (m0 : XM) : Option (Int32 × XM) :=
    xv (si m0 a0 0 0) fun m1 => xca (fX9_isUnit N a0 a1 m1) fun v3 m2 => if (v3 : Int32) = 0 then (fX9_ring_19 N a0 a1 a0 1 m2) else (fX9_ring_19 N a0 a1 a0 0 m2)
def fX9_brokenIn_34 (N : Nat → Nat) : Nat → Nat → Int32 → Int32 → Int32 → Int32 → XM → Option (Int32 × XM)
  | 0, _, _, _, _, _, _ => none
  | n + 1, q0, x1, x2, x3, x4, m0 => xv (fun q0 x1 x2 x3 x4 m0 => fX9_brokenIn_34 N n q0 x1 x2 x3 x4 m0) fun r34 =>
    if (x4 : Int32) ≤ 0 then (some (x2, m0)) else (xgr m0 q0 9 fun u1 => xald N m0 u1 0 fun v2 => if (v2 : Int32) ≤ 0 then (some (x2, m0)) else (xdv x4 <| xv (x1 / x4 : Int32) fun v3 => xdv 10 <| xv (xrem v3 10) fun v4 => xv (1 <<< (v4 &&& 31) : Int32) fun v5 => xv (x3 ||| v5 : Int32) fun v6 => xgr m0 q0 46 fun u7 => xald N m0 u7 v4 fun v8 => xv (v6 ^^^ (-1) : Int32) fun v9 => xv (v8 &&& v9 : Int32) fun v10 => xca (fX9_bits N v10 m0) fun v12 m11 => xv (x2 + v12 : Int32) fun v13 => xdv 10 <| xv (x4 / 10 : Int32) fun v14 => r34 q0 x1 v13 v6 v14 m11))
def fX9_brokenIn_10 (N : Nat → Nat) : Nat → Nat → Int32 → Int32 → Int32 → Int32 → Int32 → XM → Option (Int32 × XM)
  | 0, _, _, _, _, _, _, _ => none
  | n + 1, q0, x1, x2, x3, x4, x5, m0 => xv (fun q0 x1 x2 x3 x4 x5 m0 => fX9_brokenIn_10 N n q0 x1 x2 x3 x4 x5 m0) fun r10 =>
    xgr m0 q0 9 fun u1 => xald N m0 u1 0 fun v2 => if v2 ≤ (x5 : Int32) then (fX9_brokenIn_34 N XF q0 x1 x2 x3 x4 m0) else (xv (x4 * 10 : Int32) fun v3 => xv (x5 + 1) fun v4 => r10 q0 x1 x2 x3 v3 v4 m0)
def fX9_brokenIn (N : Nat → Nat) (a0 : Nat) (a1 : Int32) (m0 : XM) : Option (Int32 × XM) :=
    fX9_brokenIn_10 N XF a0 a1 0 0 1 1 m0
def fX9_laysDirect_2 (N : Nat → Nat) : Nat → Nat → Int32 → XM → Option XM
  | 0, _, _, _ => none
  | n + 1, q0, x1, m0 => xv (fun q0 x1 m0 => fX9_laysDirect_2 N n q0 x1 m0) fun r2 =>
    xgr m0 q0 9 fun u1 => xald N m0 u1 0 fun v2 => if v2 ≤ (x1 : Int32) then (some m0) else (xgr m0 q0 46 fun u3 => xca (fX9_touched N q0 x1 m0) fun v5 m4 => xast N m4 u3 x1 v5 fun m6 => xv (x1 + 1) fun v7 => r2 q0 v7 m6)
def fX9_laysDirect (N : Nat → Nat) (a0 : Nat) (m0 : XM) : Option XM :=
    fX9_laysDirect_2 N XF a0 0 m0
def fX9_least_79 (N : Nat → Nat) (r45 : Nat → Int32 → Int32 → Int32 → Int32 → XM → Option (Int32 × XM)) (q0 : Nat) (x1 : Int32) (x2 : Int32) (x3 : Int32) (m0 : XM) : Option (Int32 × XM) :=
    xca (fX9_nextOrder N q0 m0) fun v2 m1 => r45 q0 x1 x2 x3 v2 m1
def fX9_least_71 (N : Nat → Nat) (r45 : Nat → Int32 → Int32 → Int32 → Int32 → XM → Option (Int32 × XM)) (q0 : Nat) (x1 : Int32) (x5 : Int32) (m0 : XM) : Option (Int32 × XM) :=
    xca (fX9_orderNow N q0 m0) fun v2 m1 => fX9_least_79 N r45 q0 x1 x5 v2 m1
def fX9_least_45 (N : Nat → Nat) : Nat → Nat → Int32 → Int32 → Int32 → Int32 → XM → Option (Int32 × XM)
  | 0, _, _, _, _, _, _ => none
  | n + 1, q0, x1, x2, x3, x4, m0 => xv (fun q0 x1 x2 x3 x4 m0 => fX9_least_45 N n q0 x1 x2 x3 x4 m0) fun r45 =>
    if (x4 : Int32) = 0 then (if (x1 : Int32) = 0 then (some (x2, m0)) else (some (x3, m0))) else (xca (fX9_orderNow N q0 m0) fun v2 m1 => xca (fX9_brokenIn N q0 v2 m1) fun v4 m3 => if (x2 : Int32) = (-1) then (fX9_least_71 N r45 q0 x1 v4 m3) else (if x2 ≤ (v4 : Int32) then (fX9_least_79 N r45 q0 x1 x2 x3 m3) else (fX9_least_71 N r45 q0 x1 v4 m3)))
def fX9_least_20 (N : Nat → Nat) (q0 : Nat) (x1 : Int32) (p0 : Nat) (s1 : Int32) (m0 : XM) : Option (Int32 × XM) :=
    xca (fX9_bad N p0 s1 1 1 m0) fun v2 m1 => if (v2 : Int32) = 0 then (xcv (fX9_laysDirect N q0 m1) fun m3 => xcv (fX9_firstOrder N q0 m3) fun m4 => fX9_least_45 N XF q0 x1 (-1) (-1) 1 m4) else (some (0, m1))
def fX9_least (N : Nat → Nat) (a0 : Nat) (a1 : Int32) (m0 : XM) : Option (Int32 × XM) :=
    xv (si m0 a0 0 0) fun m1 => xca (fX9_in N a1 0 1 m1) fun v3 m2 => if (v3 : Int32) = 0 then (fX9_least_20 N a0 a1 a0 1 m2) else (fX9_least_20 N a0 a1 a0 0 m2)
def fX9_breaks_19 (N : Nat → Nat) (q0 : Nat) (x1 : Int32) (p0 : Nat) (s1 : Int32) (m0 : XM) : Option (Int32 × XM) :=
    xca (fX9_bad N p0 s1 1 1 m0) fun v2 m1 => if (v2 : Int32) = 0 then (xcv (fX9_laysDirect N q0 m1) fun m3 => xca (fX9_brokenIn N q0 x1 m3) fun v5 m4 => some (v5, m4)) else (some (0, m1))
def fX9_breaks (N : Nat → Nat) (a0 : Nat) (a1 : Int32) (m0 : XM) : Option (Int32 × XM) :=
    xv (si m0 a0 0 0) fun m1 => xca (fX9_isOrder N a0 a1 m1) fun v3 m2 => if (v3 : Int32) = 0 then (fX9_breaks_19 N a0 a1 a0 1 m2) else (fX9_breaks_19 N a0 a1 a0 0 m2)
def fX9_print_99 (N : Nat → Nat) (r13 : Nat → Int64 → Int32 → XM → Option (Int64 × XM)) (r40 : Nat → Int64 → Int32 → Int32 → XM → Option (Int64 × XM)) (q0 : Nat) (x1 : Int64) (x3 : Int32) (x4 : Int32) (m0 : XM) : Option (Int64 × XM) :=
    xv (x4 + 1) fun v1 => r40 q0 x1 x3 v1 m0
def fX9_print_40 (N : Nat → Nat) (r13 : Nat → Int64 → Int32 → XM → Option (Int64 × XM)) : Nat → Nat → Int64 → Int32 → Int32 → XM → Option (Int64 × XM)
  | 0, _, _, _, _, _ => none
  | n + 1, q0, x1, x3, x4, m0 => xv (fun q0 x1 x3 x4 m0 => fX9_print_40 N r13 n q0 x1 x3 x4 m0) fun r40 =>
    xgr m0 q0 9 fun u1 => xca (fX9_unitOf N u1 x3 2 m0) fun v3 m2 => if v3 ≤ (x4 : Int32) then (xv (x3 + 1) fun v4 => r13 q0 x1 v4 m2) else (xgr m2 q0 9 fun u5 => xgr m2 q0 9 fun u6 => xca (fX9_memberAt N u6 x3 x4 m2) fun v8 m7 => xca (fX9_ofMember N u5 v8 0 m7) fun v10 m9 => if (v10 : Int32) = 1 then (xv (31 * x1 : Int64) fun w11 => xgr m9 q0 20 fun u12 => xgr m9 q0 9 fun u13 => xca (fX9_memberAt N u13 x3 x4 m9) fun v15 m14 => xald N m14 u12 v15 fun v16 => xv ((v16 : Int32).toInt64) fun w17 => xv (w11 + w17 : Int64) fun w18 => fX9_print_99 N r13 r40 q0 w18 x3 x4 m14) else (fX9_print_99 N r13 r40 q0 x1 x3 x4 m9))
def fX9_print_13 (N : Nat → Nat) : Nat → Nat → Int64 → Int32 → XM → Option (Int64 × XM)
  | 0, _, _, _, _ => none
  | n + 1, q0, x1, x3, m0 => xv (fun q0 x1 x3 m0 => fX9_print_13 N n q0 x1 x3 m0) fun r13 =>
    xgr m0 q0 9 fun u1 => xald N m0 u1 0 fun v2 => if v2 ≤ (x3 : Int32) then (some (x1, m0)) else (xv (31 * x1 : Int64) fun w3 => xgr m0 q0 18 fun u4 => xald N m0 u4 x3 fun v5 => xv ((v5 : Int32).toInt64) fun w6 => xv (w3 + w6 : Int64) fun w7 => fX9_print_40 N r13 XF q0 w7 x3 0 m0)
def fX9_print (N : Nat → Nat) (a0 : Nat) (m0 : XM) : Option (Int64 × XM) :=
    xv (si m0 a0 0 0) fun m1 => xcv (fX9_lays N a0 m1) fun m2 => fX9_print_13 N XF a0 0 0 m2
def fX9_status (N : Nat → Nat) (a0 : Nat) (a1 : Int32) (m0 : XM) : Option (Int32 × XM) :=
    xv (si m0 a0 0 0) fun m1 => xca (fX9_in N a1 0 1 m1) fun v3 m2 => if (v3 : Int32) = 0 then (some ((-1), m2)) else (xgr m2 a0 1 fun u4 => xald N m2 u4 a1 fun v5 => some (v5, m2))
