def fJ9_min_7cf53 (N : Nat → Nat) (a0 : Int32) (a1 : Int32) (m0 : XM) : Option (Int32 × XM) :=
    if a1 < (a0 : Int32) then (some (a1, m0)) else (some (a0, m0))
def fJ7_fill_53178_5 (N : Nat → Nat) : Nat → Nat → Int32 → Int32 → Int32 → XM → Option XM
  | 0, _, _, _, _, _ => none
  | n + 1, q0, x1, x2, x3, m0 => xv (fun q0 x1 x2 x3 m0 => fJ7_fill_53178_5 N n q0 x1 x2 x3 m0) fun r5 =>
    if x3 ≤ (x2 : Int32) then (some m0) else (xast N m0 q0 x2 x1 fun m1 => xv (x2 + 1) fun v2 => r5 q0 x1 v2 x3 m1)
def fJ7_fill_53178 (N : Nat → Nat) (a0 : Nat) (a1 : Int32) (m0 : XM) : Option XM :=
    xv (Int32.ofNat (N a0)) fun v1 => fJ7_fill_53178_5 N XF a0 a1 0 v1 m0
def fJ7_fill_d0a16_6 (N : Nat → Nat) : Nat → Nat → Int64 → Int32 → Int32 → XM → Option XM
  | 0, _, _, _, _, _ => none
  | n + 1, q0, x1, x3, x4, m0 => xv (fun q0 x1 x3 x4 m0 => fJ7_fill_d0a16_6 N n q0 x1 x3 x4 m0) fun r6 =>
    if x4 ≤ (x3 : Int32) then (some m0) else (xlst N m0 q0 x3 x1 fun m1 => xv (x3 + 1) fun v2 => r6 q0 x1 v2 x4 m1)
def fJ7_fill_d0a16 (N : Nat → Nat) (a0 : Nat) (a1 : Int64) (m0 : XM) : Option XM :=
    xv (Int32.ofNat (N a0)) fun v1 => fJ7_fill_d0a16_6 N XF a0 a1 0 v1 m0
def fJ6_bitCount_0f7a4 (N : Nat → Nat) (a0 : Int32) (m0 : XM) : Option (Int32 × XM) :=
    xv (((a0 : Int32).toUInt32 >>> ((1 : Int32).toUInt32 &&& Int32.toUInt32 31)).toInt32) fun v1 => xv (v1 &&& 1431655765 : Int32) fun v2 => xv (a0 - v2 : Int32) fun v3 => xv (v3 &&& 858993459 : Int32) fun v4 => xv (((v3 : Int32).toUInt32 >>> ((2 : Int32).toUInt32 &&& Int32.toUInt32 31)).toInt32) fun v5 => xv (v5 &&& 858993459 : Int32) fun v6 => xv (v4 + v6 : Int32) fun v7 => xv (((v7 : Int32).toUInt32 >>> ((4 : Int32).toUInt32 &&& Int32.toUInt32 31)).toInt32) fun v8 => xv (v7 + v8 : Int32) fun v9 => xv (v9 &&& 252645135 : Int32) fun v10 => xv (((v10 : Int32).toUInt32 >>> ((8 : Int32).toUInt32 &&& Int32.toUInt32 31)).toInt32) fun v11 => xv (v10 + v11 : Int32) fun v12 => xv (((v12 : Int32).toUInt32 >>> ((16 : Int32).toUInt32 &&& Int32.toUInt32 31)).toInt32) fun v13 => xv (v12 + v13 : Int32) fun v14 => xv (v14 &&& 63 : Int32) fun v15 => some (v15, m0)
