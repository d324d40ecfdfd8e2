def fX4_keep_54 (N : Nat → Nat) : Nat → Nat → Nat → Int32 → XM → Option XM
  | 0, _, _, _, _ => none
  | n + 1, q0, q1, x3, m0 => xv (fun q0 q1 x3 m0 => fX4_keep_54 N n q0 q1 x3 m0) fun r54 =>
    xv (gi m0 q0 1) fun v1 => if v1 ≤ (x3 : Int32) then (some m0) else (xgr m0 q0 2 fun u2 => xgr m0 q1 8 fun u3 => xald N m0 u3 x3 fun v4 => xast N m0 u2 x3 v4 fun m5 => xv (x3 + 1) fun v6 => r54 q0 q1 v6 m5)
def fX4_keep (N : Nat → Nat) (a0 : Nat) (a1 : Nat) (a2 : Int32) (m0 : XM) : Option XM :=
    xv (si m0 a0 3 a2) fun m1 => xgr m1 a1 0 fun u2 => xgr m1 u2 5 fun u3 => xald N m1 u3 a2 fun v4 => xv (si m1 a0 4 v4) fun m5 => xgr m5 a1 2 fun u6 => xald N m5 u6 a2 fun v7 => xv (si m5 a0 5 v7) fun m8 => xv (gi m8 a1 11) fun v9 => xv (si m8 a0 6 v9) fun m10 => xv (gi m10 a1 16) fun v11 => xv (si m10 a0 7 v11) fun m12 => xv (gi m12 a1 7) fun v13 => xv (si m12 a0 1 v13) fun m14 => fX4_keep_54 N XF a0 a1 0 m14
def fX4_tell (N : Nat → Nat) (a0 : Nat) (a1 : Int32) (m0 : XM) : Option (Int32 × XM) :=
    if (a1 : Int32) = 0 then (xv (gi m0 a0 3) fun v2 => xdv 12 <| xv (v2 / 12 : Int32) fun v3 => some (v3, m0)) else (if (a1 : Int32) = 1 then (xv (gi m0 a0 4) fun v5 => some (v5, m0)) else (if (a1 : Int32) = 2 then (xv (gi m0 a0 5) fun v7 => some (v7, m0)) else (if (a1 : Int32) = 3 then (xv (gi m0 a0 6) fun v9 => some (v9, m0)) else (if (a1 : Int32) = 4 then (xv (gi m0 a0 1) fun v11 => some (v11, m0)) else (xv (gi m0 a0 7) fun v12 => some (v12, m0))))))
