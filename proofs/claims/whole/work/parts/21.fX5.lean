def fX5_countTerms_32 (N : Nat → Nat) (r9 : Nat → Int32 → Int32 → Int32 → XM → Option (Int32 × XM)) (q0 : Nat) (x1 : Int32) (x2 : Int32) (x3 : Int32) (m0 : XM) : Option (Int32 × XM) :=
    xv (x3 + 1) fun v1 => r9 q0 x1 x2 v1 m0
def fX5_countTerms_9 (N : Nat → Nat) : Nat → Nat → Int32 → Int32 → Int32 → XM → Option (Int32 × XM)
  | 0, _, _, _, _, _ => none
  | n + 1, q0, x1, x2, x3, m0 => xv (fun q0 x1 x2 x3 m0 => fX5_countTerms_9 N n q0 x1 x2 x3 m0) fun r9 =>
    xgr m0 q0 5 fun u1 => xald N m0 u1 x1 fun v2 => if v2 ≤ (x3 : Int32) then (some (x2, m0)) else (xgr m0 q0 1 fun u3 => xald N m0 u3 x3 fun v4 => if 3 < (v4 : Int32) then (fX5_countTerms_32 N r9 q0 x1 x2 x3 m0) else (xv (x2 + 1) fun v5 => fX5_countTerms_32 N r9 q0 x1 v5 x3 m0))
def fX5_countTerms (N : Nat → Nat) (a0 : Nat) (a1 : Int32) (m0 : XM) : Option (Int32 × XM) :=
    xgr m0 a0 4 fun u1 => xald N m0 u1 a1 fun v2 => fX5_countTerms_9 N XF a0 a1 0 v2 m0
