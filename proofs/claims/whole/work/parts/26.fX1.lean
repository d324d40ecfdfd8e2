def fX1_isDigit_16 (N : Nat → Nat) (m0 : XM) : Option (Int32 × XM) :=
    some (0, m0)
def fX1_isDigit (N : Nat → Nat) (a0 : Nat) (a1 : Int32) (m0 : XM) : Option (Int32 × XM) :=
    if (a1 : Int32) < 48 then (fX1_isDigit_16 N m0) else (if 57 < (a1 : Int32) then (fX1_isDigit_16 N m0) else (some (1, m0)))
def fX1_putToken (N : Nat → Nat) (a0 : Nat) (a1 : Int32) (a2 : Int32) (a3 : Int32) (m0 : XM) : Option XM :=
    xv (gi m0 a0 6) fun v1 => xgr m0 a0 7 fun u2 => xv (Int32.ofNat (N u2)) fun v3 => if v3 ≤ (v1 : Int32) then (some m0) else (xgr m0 a0 7 fun u4 => xv (gi m0 a0 6) fun v5 => xast N m0 u4 v5 a1 fun m6 => xgr m6 a0 8 fun u7 => xv (gi m6 a0 6) fun v8 => xast N m6 u7 v8 a2 fun m9 => xgr m9 a0 9 fun u10 => xv (gi m9 a0 6) fun v11 => xast N m9 u10 v11 a3 fun m12 => xv (gi m12 a0 6) fun v13 => xv (v13 + 1 : Int32) fun v14 => xv (si m12 a0 6 v14) fun m15 => some m15)
def fX1_cutNumber_52 (N : Nat → Nat) (q0 : Nat) (x1 : Int32) (x2 : Int32) (x3 : Int32) (m0 : XM) : Option (Int32 × XM) :=
    xcv (fX1_putToken N q0 259 x1 x2 m0) fun m1 => some (x3, m1)
def fX1_cutNumber_4 (N : Nat → Nat) : Nat → Nat → Int32 → Int32 → Int32 → XM → Option (Int32 × XM)
  | 0, _, _, _, _, _ => none
  | n + 1, q0, x1, x2, x3, m0 => xv (fun q0 x1 x2 x3 m0 => fX1_cutNumber_4 N n q0 x1 x2 x3 m0) fun r4 =>
    xv (gi m0 q0 5) fun v1 => if v1 ≤ (x3 : Int32) then (fX1_cutNumber_52 N q0 x1 x2 x3 m0) else (xgr m0 q0 4 fun u2 => xald N m0 u2 x3 fun v3 => xca (fX1_isDigit N q0 v3 m0) fun v5 m4 => if (v5 : Int32) = 0 then (fX1_cutNumber_52 N q0 x1 x2 x3 m4) else (xv (x2 * 10 : Int32) fun v6 => xgr m4 q0 4 fun u7 => xald N m4 u7 x3 fun v8 => xv (v6 + v8 : Int32) fun v9 => xv (v9 - 48 : Int32) fun v10 => xca (fJ9_min_7cf53 N v10 1000 m4) fun v12 m11 => xv (x3 + 1) fun v13 => r4 q0 x1 v12 v13 m11))
def fX1_cutNumber (N : Nat → Nat) (a0 : Nat) (a1 : Int32) (m0 : XM) : Option (Int32 × XM) :=
    fX1_cutNumber_4 N XF a0 a1 0 a1 m0
def fX1_isSmall_16 (N : Nat → Nat) (m0 : XM) : Option (Int32 × XM) :=
    some (0, m0)
def fX1_isSmall (N : Nat → Nat) (a0 : Nat) (a1 : Int32) (m0 : XM) : Option (Int32 × XM) :=
    if (a1 : Int32) < 97 then (fX1_isSmall_16 N m0) else (if 122 < (a1 : Int32) then (fX1_isSmall_16 N m0) else (some (1, m0)))
def fX1_spells_15 (N : Nat → Nat) : Nat → Nat → Nat → Int32 → Int32 → XM → Option (Int32 × XM)
  | 0, _, _, _, _, _ => none
  | n + 1, q0, q1, x2, x4, m0 => xv (fun q0 q1 x2 x4 m0 => fX1_spells_15 N n q0 q1 x2 x4 m0) fun r15 =>
    xca (fJ0_length_8abf5 N q1 m0) fun v2 m1 => if v2 ≤ (x4 : Int32) then (some (1, m1)) else (xgr m1 q0 4 fun u3 => xv (x2 + x4 : Int32) fun v4 => xald N m1 u3 v4 fun v5 => xca (fJ0_charAt_5068e N q1 x4 m1) fun v7 m6 => if (v5 : Int32) = v7 then (xv (x4 + 1) fun v8 => r15 q0 q1 x2 v8 m6) else (some (0, m6)))
def fX1_spells (N : Nat → Nat) (a0 : Nat) (a1 : Nat) (a2 : Int32) (a3 : Int32) (m0 : XM) : Option (Int32 × XM) :=
    xv (a3 - a2 : Int32) fun v1 => xca (fJ0_length_8abf5 N a1 m0) fun v3 m2 => if (v1 : Int32) = v3 then (fX1_spells_15 N XF a0 a1 a2 0 m2) else (some (0, m2))
def fX1_wordKind (N : Nat → Nat) (a0 : Nat) (a1 : Int32) (a2 : Int32) (m0 : XM) : Option (Int32 × XM) :=
    xca (fX1_spells N a0 0 a1 a2 m0) fun v2 m1 => if (v2 : Int32) = 0 then (xca (fX1_spells N a0 1 a1 a2 m1) fun v4 m3 => if (v4 : Int32) = 0 then (xca (fX1_spells N a0 2 a1 a2 m3) fun v6 m5 => if (v6 : Int32) = 0 then (xca (fX1_spells N a0 3 a1 a2 m5) fun v8 m7 => if (v8 : Int32) = 0 then (xca (fX1_spells N a0 4 a1 a2 m7) fun v10 m9 => if (v10 : Int32) = 0 then (xca (fX1_spells N a0 5 a1 a2 m9) fun v12 m11 => if (v12 : Int32) = 0 then (xca (fX1_spells N a0 6 a1 a2 m11) fun v14 m13 => if (v14 : Int32) = 0 then (xca (fX1_spells N a0 7 a1 a2 m13) fun v16 m15 => if (v16 : Int32) = 0 then (some (256, m15)) else (some (267, m15))) else (some (266, m13))) else (some (265, m11))) else (some (264, m9))) else (some (263, m7))) else (some (262, m5))) else (some (261, m3))) else (some (260, m1))
def fX1_isLetter_24 (N : Nat → Nat) (m0 : XM) : Option (Int32 × XM) :=
    some (1, m0)
def fX1_isLetter_28 (N : Nat → Nat) (m0 : XM) : Option (Int32 × XM) :=
    some (0, m0)
def fX1_isLetter_12 (N : Nat → Nat) (x1 : Int32) (m0 : XM) : Option (Int32 × XM) :=
    if (x1 : Int32) < 65 then (fX1_isLetter_28 N m0) else (if 90 < (x1 : Int32) then (fX1_isLetter_28 N m0) else (fX1_isLetter_24 N m0))
def fX1_isLetter (N : Nat → Nat) (a0 : Nat) (a1 : Int32) (m0 : XM) : Option (Int32 × XM) :=
    if (a1 : Int32) < 97 then (fX1_isLetter_12 N a1 m0) else (if (a1 : Int32) ≤ 122 then (fX1_isLetter_24 N m0) else (fX1_isLetter_12 N a1 m0))
def fX1_standsAlone_25 (N : Nat → Nat) (m0 : XM) : Option (Int32 × XM) :=
    some (1, m0)
def fX1_standsAlone (N : Nat → Nat) (a0 : Nat) (a1 : Int32) (m0 : XM) : Option (Int32 × XM) :=
    xv (a1 + 1 : Int32) fun v1 => xv (gi m0 a0 5) fun v2 => if v2 ≤ (v1 : Int32) then (fX1_standsAlone_25 N m0) else (xgr m0 a0 4 fun u3 => xv (a1 + 1 : Int32) fun v4 => xald N m0 u3 v4 fun v5 => xca (fX1_isLetter N a0 v5 m0) fun v7 m6 => if (v7 : Int32) = 0 then (fX1_standsAlone_25 N m6) else (some (0, m6)))
def fX1_cutWord_71 (N : Nat → Nat) (q0 : Nat) (x1 : Int32) (x2 : Int32) (p0 : Nat) (s1 : Int32) (m0 : XM) : Option (Int32 × XM) :=
    xgr m0 q0 4 fun u1 => xald N m0 u1 x1 fun v2 => xv (v2 - 97 : Int32) fun v3 => xcv (fX1_putToken N p0 s1 x1 v3 m0) fun m4 => some (x2, m4)
def fX1_cutWord_31 (N : Nat → Nat) (q0 : Nat) (x1 : Int32) (x2 : Int32) (m0 : XM) : Option (Int32 × XM) :=
    xv (x1 + 1 : Int32) fun v1 => if (x2 : Int32) ≤ v1 then (xca (fX1_standsAlone N q0 x1 m0) fun v3 m2 => if (v3 : Int32) = 0 then (fX1_cutWord_71 N q0 x1 x2 q0 256 m2) else (fX1_cutWord_71 N q0 x1 x2 q0 258 m2)) else (xca (fX1_wordKind N q0 x1 x2 m0) fun v5 m4 => xcv (fX1_putToken N q0 v5 x1 0 m4) fun m6 => some (x2, m6))
def fX1_cutWord_4 (N : Nat → Nat) : Nat → Nat → Int32 → Int32 → XM → Option (Int32 × XM)
  | 0, _, _, _, _ => none
  | n + 1, q0, x1, x2, m0 => xv (fun q0 x1 x2 m0 => fX1_cutWord_4 N n q0 x1 x2 m0) fun r4 =>
    xv (gi m0 q0 5) fun v1 => if v1 ≤ (x2 : Int32) then (fX1_cutWord_31 N q0 x1 x2 m0) else (xgr m0 q0 4 fun u2 => xald N m0 u2 x2 fun v3 => xca (fX1_isSmall N q0 v3 m0) fun v5 m4 => if (v5 : Int32) = 0 then (fX1_cutWord_31 N q0 x1 x2 m4) else (xv (x2 + 1) fun v6 => r4 q0 x1 v6 m4))
def fX1_cutWord (N : Nat → Nat) (a0 : Nat) (a1 : Int32) (m0 : XM) : Option (Int32 × XM) :=
    xv (a1 + 1 : Int32) fun v1 => fX1_cutWord_4 N XF a0 a1 v1 m0
def fX1_cutToken_85 (N : Nat → Nat) (x1 : Int32) (m0 : XM) : Option (Int32 × XM) :=
    xv (x1 + 1 : Int32) fun v1 => some (v1, m0)
def fX1_cutToken_67 (N : Nat → Nat) (x1 : Int32) (x2 : Int32) (p0 : Nat) (s1 : Int32) (m0 : XM) : Option (Int32 × XM) :=
    xv (x2 - 65 : Int32) fun v1 => xcv (fX1_putToken N p0 s1 x1 v1 m0) fun m2 => fX1_cutToken_85 N x1 m2
def fX1_cutToken_64 (N : Nat → Nat) (x1 : Int32) (x2 : Int32) (p0 : Nat) (m0 : XM) : Option (Int32 × XM) :=
    fX1_cutToken_67 N x1 x2 p0 256 m0
def fX1_cutToken (N : Nat → Nat) (a0 : Nat) (a1 : Int32) (m0 : XM) : Option (Int32 × XM) :=
    xgr m0 a0 4 fun u1 => xald N m0 u1 a1 fun v2 => xca (fX1_isDigit N a0 v2 m0) fun v4 m3 => if (v4 : Int32) = 0 then (xca (fX1_isSmall N a0 v2 m3) fun v6 m5 => if (v6 : Int32) = 0 then (xca (fX1_isLetter N a0 v2 m5) fun v8 m7 => if (v8 : Int32) = 0 then (xcv (fX1_putToken N a0 v2 a1 0 m7) fun m9 => fX1_cutToken_85 N a1 m9) else (if 71 < (v2 : Int32) then (fX1_cutToken_64 N a1 v2 a0 m7) else (xca (fX1_standsAlone N a0 a1 m7) fun v11 m10 => if (v11 : Int32) = 0 then (fX1_cutToken_64 N a1 v2 a0 m10) else (fX1_cutToken_67 N a1 v2 a0 257 m10)))) else (xca (fX1_cutWord N a0 a1 m5) fun v13 m12 => some (v13, m12))) else (xca (fX1_cutNumber N a0 a1 m3) fun v15 m14 => some (v15, m14))
def fX1_cutTokens_65 (N : Nat → Nat) (r31 : Nat → Int32 → Int32 → XM → Option XM) (q0 : Nat) (x3 : Int32) (x4 : Int32) (m0 : XM) : Option XM :=
    xv (x4 + 1) fun v1 => r31 q0 x3 v1 m0
def fX1_cutTokens_74 (N : Nat → Nat) : Nat → Nat → Int32 → XM → Option XM
  | 0, _, _, _ => none
  | n + 1, q0, x4, m0 => xv (fun q0 x4 m0 => fX1_cutTokens_74 N n q0 x4 m0) fun r74 =>
    if 2 ≤ (x4 : Int32) then (some m0) else (xv (gi m0 q0 5) fun v1 => xcv (fX1_putToken N q0 (-1) v1 0 m0) fun m2 => xv (x4 + 1) fun v3 => r74 q0 v3 m2)
def fX1_cutTokens_31 (N : Nat → Nat) : Nat → Nat → Int32 → Int32 → XM → Option XM
  | 0, _, _, _, _ => none
  | n + 1, q0, x3, x4, m0 => xv (fun q0 x3 x4 m0 => fX1_cutTokens_31 N n q0 x3 x4 m0) fun r31 =>
    xv (gi m0 q0 5) fun v1 => if v1 ≤ (x4 : Int32) then (fX1_cutTokens_74 N XF q0 0 m0) else (if (x4 : Int32) < x3 then (fX1_cutTokens_65 N r31 q0 x3 x4 m0) else (xgr m0 q0 4 fun u2 => xald N m0 u2 x4 fun v3 => if (v3 : Int32) = 32 then (fX1_cutTokens_65 N r31 q0 x3 x4 m0) else (xca (fX1_cutToken N q0 x4 m0) fun v5 m4 => fX1_cutTokens_65 N r31 q0 v5 x4 m4)))
def fX1_cutTokens (N : Nat → Nat) (a0 : Nat) (a1 : Nat) (a2 : Int32) (m0 : XM) : Option XM :=
    xv (sr m0 a0 4 (some a1)) fun m1 => xv (Int32.ofNat (N a1)) fun v2 => xca (fJ9_min_7cf53 N v2 600 m1) fun v4 m3 => xca (fJ9_min_7cf53 N a2 v4 m3) fun v6 m5 => xv (si m5 a0 5 v6) fun m7 => xv (si m7 a0 6 0) fun m8 => fX1_cutTokens_31 N XF a0 0 0 m8
def fX1_refuse (N : Nat → Nat) (a0 : Nat) (a1 : Int32) (m0 : XM) : Option (Int32 × XM) :=
    xv (si m0 a0 12 a1) fun m1 => xgr m1 a0 8 fun u2 => xv (gi m1 a0 10) fun v3 => xald N m1 u2 v3 fun v4 => xv (si m1 a0 13 v4) fun m5 => some (0, m5)
def fX1_take (N : Nat → Nat) (a0 : Nat) (a1 : Int32) (m0 : XM) : Option (Int32 × XM) :=
    xgr m0 a0 7 fun u1 => xv (gi m0 a0 10) fun v2 => xald N m0 u1 v2 fun v3 => if (v3 : Int32) = a1 then (xv (gi m0 a0 10) fun v4 => xv (v4 + 1 : Int32) fun v5 => xv (si m0 a0 10 v5) fun m6 => some (1, m6)) else (some (0, m0))
def fX1_mustTake (N : Nat → Nat) (a0 : Nat) (a1 : Int32) (m0 : XM) : Option (Int32 × XM) :=
    xgr m0 a0 7 fun u1 => xv (gi m0 a0 10) fun v2 => xald N m0 u1 v2 fun v3 => if (v3 : Int32) = a1 then (xv (gi m0 a0 10) fun v4 => xv (v4 + 1 : Int32) fun v5 => xv (si m0 a0 10 v5) fun m6 => some (1, m6)) else (xv (si m0 a0 12 1) fun m7 => xgr m7 a0 8 fun u8 => xv (gi m7 a0 10) fun v9 => xald N m7 u8 v9 fun v10 => xv (si m7 a0 13 v10) fun m11 => some (0, m11))
def fX1_readHead_125 (N : Nat → Nat) (q0 : Nat) (x1 : Int32) (x2 : Int32) (x3 : Int32) (m0 : XM) : Option (Int32 × XM) :=
    xgr m0 q0 0 fun u1 => xcv (fX6_addUnit N u1 x1 x2 x3 m0) fun m2 => xgr m2 q0 1 fun u3 => xast N m2 u3 x2 x1 fun m4 => xca (fX1_mustTake N q0 123 m4) fun v6 m5 => xnb v6 (some (v6, m5))
def fX1_readHead (N : Nat → Nat) (a0 : Nat) (a1 : Int32) (m0 : XM) : Option (Int32 × XM) :=
    xgr m0 a0 7 fun u1 => xv (gi m0 a0 10) fun v2 => xald N m0 u1 v2 fun v3 => if (v3 : Int32) = 257 then (xgr m0 a0 9 fun u4 => xv (gi m0 a0 10) fun v5 => xald N m0 u4 v5 fun v6 => xgr m0 a0 1 fun u7 => xald N m0 u7 v6 fun v8 => if (v8 : Int32) = (-1) then (xv (gi m0 a0 10) fun v9 => xv (v9 + 1 : Int32) fun v10 => xv (si m0 a0 10 v10) fun m11 => xca (fX1_take N a0 58 m11) fun v13 m12 => if (v13 : Int32) = 0 then (fX1_readHead_125 N a0 a1 v6 (-1) m12) else (xgr m12 a0 7 fun u14 => xv (gi m12 a0 10) fun v15 => xald N m12 u14 v15 fun v16 => if (v16 : Int32) = 257 then (xgr m12 a0 1 fun u17 => xgr m12 a0 9 fun u18 => xv (gi m12 a0 10) fun v19 => xald N m12 u18 v19 fun v20 => xald N m12 u17 v20 fun v21 => if (v21 : Int32) = (-1) then (xca (fX1_refuse N a0 4 m12) fun v26 m25 => xnb v26 (some (v26, m25))) else (xv (gi m12 a0 10) fun v22 => xv (v22 + 1 : Int32) fun v23 => xv (si m12 a0 10 v23) fun m24 => fX1_readHead_125 N a0 a1 v6 v21 m24)) else (xca (fX1_refuse N a0 1 m12) fun v28 m27 => xnb v28 (some (v28, m27))))) else (xca (fX1_refuse N a0 4 m0) fun v30 m29 => xnb v30 (some (v30, m29)))) else (xca (fX1_refuse N a0 1 m0) fun v32 m31 => xnb v32 (some (v32, m31)))
def fX1_isMemberHere (N : Nat → Nat) (a0 : Nat) (m0 : XM) : Option (Int32 × XM) :=
    xgr m0 a0 7 fun u1 => xv (gi m0 a0 10) fun v2 => xald N m0 u1 v2 fun v3 => if (v3 : Int32) = 257 then (some (1, m0)) else (if (v3 : Int32) = 258 then (some (0, m0)) else (if (v3 : Int32) = 259 then (some (0, m0)) else (if (v3 : Int32) = 260 then (some (0, m0)) else (if (v3 : Int32) = 261 then (some (0, m0)) else (if (v3 : Int32) = 262 then (some (1, m0)) else (if (v3 : Int32) = 263 then (some (1, m0)) else (if (v3 : Int32) = 264 then (some (1, m0)) else (if (v3 : Int32) = 265 then (some (1, m0)) else (some (0, m0))))))))))
def fX1_readName (N : Nat → Nat) (a0 : Nat) (a1 : Int32) (a2 : Int32) (m0 : XM) : Option (Int32 × XM) :=
    xv (gi m0 a0 10) fun v1 => xv (v1 + 1 : Int32) fun v2 => xv (si m0 a0 10 v2) fun m3 => xgr m3 a0 7 fun u4 => xv (gi m3 a0 10) fun v5 => xald N m3 u4 v5 fun v6 => if (v6 : Int32) = 258 then (xgr m3 a0 9 fun u7 => xv (gi m3 a0 10) fun v8 => xald N m3 u7 v8 fun v9 => xgr m3 a0 0 fun u10 => xgr m3 u10 10 fun u11 => xv (a1 * 26 : Int32) fun v12 => xv (v12 + v9 : Int32) fun v13 => xald N m3 u11 v13 fun v14 => if (v14 : Int32) = (-1) then (xv (gi m3 a0 10) fun v15 => xv (v15 + 1 : Int32) fun v16 => xv (si m3 a0 10 v16) fun m17 => xgr m17 a0 0 fun u18 => xgr m17 u18 5 fun u19 => xast N m17 u19 a2 v9 fun m20 => xgr m20 a0 0 fun u21 => xgr m20 u21 10 fun u22 => xv (a1 * 26 : Int32) fun v23 => xv (v23 + v9 : Int32) fun v24 => xast N m20 u22 v24 a2 fun m25 => some (1, m25)) else (xca (fX1_refuse N a0 4 m3) fun v27 m26 => xnb v27 (some (v27, m26)))) else (xca (fX1_refuse N a0 1 m3) fun v29 m28 => xnb v29 (some (v29, m28)))
def fX1_readConstant (N : Nat → Nat) (a0 : Nat) (a1 : Int32) (a2 : Int32) (m0 : XM) : Option (Int32 × XM) :=
    xca (fX1_readName N a0 a1 a2 m0) fun v2 m1 => if (v2 : Int32) = 0 then (some (0, m1)) else (xca (fX1_mustTake N a0 61 m1) fun v4 m3 => if (v4 : Int32) = 0 then (some (0, m3)) else (xgr m3 a0 7 fun u5 => xv (gi m3 a0 10) fun v6 => xald N m3 u5 v6 fun v7 => if (v7 : Int32) = 259 then (xgr m3 a0 9 fun u8 => xv (gi m3 a0 10) fun v9 => xald N m3 u8 v9 fun v10 => if (v10 : Int32) ≤ 999 then (xgr m3 a0 0 fun u11 => xgr m3 u11 6 fun u12 => xgr m3 a0 9 fun u13 => xv (gi m3 a0 10) fun v14 => xald N m3 u13 v14 fun v15 => xast N m3 u12 a2 v15 fun m16 => xv (gi m16 a0 10) fun v17 => xv (v17 + 1 : Int32) fun v18 => xv (si m16 a0 10 v18) fun m19 => xca (fX1_mustTake N a0 59 m19) fun v21 m20 => xnb v21 (some (v21, m20))) else (xca (fX1_refuse N a0 2 m3) fun v23 m22 => xnb v23 (some (v23, m22)))) else (xca (fX1_refuse N a0 1 m3) fun v25 m24 => xnb v25 (some (v25, m24)))))
def fX1_readKey_86 (N : Nat → Nat) (q0 : Nat) (m0 : XM) : Option (Int32 × XM) :=
    xv (si m0 q0 12 1) fun m1 => xgr m1 q0 8 fun u2 => xv (gi m1 q0 10) fun v3 => xald N m1 u2 v3 fun v4 => xv (si m1 q0 13 v4) fun m5 => some ((-1), m5)
def fX1_readKey (N : Nat → Nat) (a0 : Nat) (m0 : XM) : Option (Int32 × XM) :=
    xgr m0 a0 9 fun u1 => xv (gi m0 a0 10) fun v2 => xald N m0 u1 v2 fun v3 => xv (gi m0 a0 10) fun v4 => xv (v4 + 1 : Int32) fun v5 => xv (si m0 a0 10 v5) fun m6 => xgr m6 a0 7 fun u7 => xv (gi m6 a0 10) fun v8 => xald N m6 u7 v8 fun v9 => if (v9 : Int32) = 46 then (xv (gi m6 a0 10) fun v10 => xv (v10 + 1 : Int32) fun v11 => xv (si m6 a0 10 v11) fun m12 => xgr m12 a0 7 fun u13 => xv (gi m12 a0 10) fun v14 => xald N m12 u13 v14 fun v15 => if (v15 : Int32) = 258 then (xv (gi m12 a0 10) fun v16 => xv (v16 + 1 : Int32) fun v17 => xv (si m12 a0 10 v17) fun m18 => xv (v3 * 26 : Int32) fun v19 => xgr m18 a0 9 fun u20 => xv (gi m18 a0 10) fun v21 => xv (v21 - 1 : Int32) fun v22 => xald N m18 u20 v22 fun v23 => xv (v19 + v23 : Int32) fun v24 => some (v24, m18)) else (fX1_readKey_86 N a0 m12)) else (fX1_readKey_86 N a0 m6)
def fX1_termFaultHere_74 (N : Nat → Nat) (q0 : Nat) (m0 : XM) : Option (Int32 × XM) :=
    xv (gi m0 q0 11) fun v1 => if 8 ≤ (v1 : Int32) then (some (3, m0)) else (some (0, m0))
def fX1_termFaultHere_69 (N : Nat → Nat) (q0 : Nat) (m0 : XM) : Option (Int32 × XM) :=
    fX1_termFaultHere_74 N q0 m0
def fX1_termFaultHere (N : Nat → Nat) (a0 : Nat) (m0 : XM) : Option (Int32 × XM) :=
    xgr m0 a0 7 fun u1 => xv (gi m0 a0 10) fun v2 => xald N m0 u1 v2 fun v3 => if (v3 : Int32) = 40 then (fX1_termFaultHere_69 N a0 m0) else (if (v3 : Int32) = 257 then (fX1_termFaultHere_69 N a0 m0) else (if (v3 : Int32) = 259 then (xgr m0 a0 9 fun u7 => xv (gi m0 a0 10) fun v8 => xald N m0 u7 v8 fun v9 => if (v9 : Int32) ≤ 999 then (fX1_termFaultHere_74 N a0 m0) else (some (2, m0))) else (if (v3 : Int32) = 267 then (fX1_termFaultHere_69 N a0 m0) else (some (1, m0)))))
def fX1_putCode (N : Nat → Nat) (a0 : Nat) (a1 : Int32) (a2 : Int32) (a3 : Int32) (m0 : XM) : Option XM :=
    xgr m0 a0 0 fun u1 => xgr m0 u1 13 fun u2 => xv (gi m0 u2 0) fun v3 => if 600 ≤ (v3 : Int32) then (some m0) else (xgr m0 u2 1 fun u4 => xv (gi m0 u2 0) fun v5 => xast N m0 u4 v5 a1 fun m6 => xgr m6 u2 2 fun u7 => xv (gi m6 u2 0) fun v8 => xast N m6 u7 v8 a2 fun m9 => xgr m9 a0 2 fun u10 => xv (gi m9 u2 0) fun v11 => xast N m9 u10 v11 a3 fun m12 => xv (gi m12 u2 0) fun v13 => xv (v13 + 1 : Int32) fun v14 => xv (si m12 u2 0 v14) fun m15 => some m15)
def fX1_operatorHere (N : Nat → Nat) (a0 : Nat) (m0 : XM) : Option (Int32 × XM) :=
    xgr m0 a0 7 fun u1 => xv (gi m0 a0 10) fun v2 => xald N m0 u1 v2 fun v3 => if (v3 : Int32) = 42 then (some (6, m0)) else (if (v3 : Int32) = 43 then (some (4, m0)) else (if (v3 : Int32) = 44 then (some ((-1), m0)) else (if (v3 : Int32) = 45 then (some (5, m0)) else (some ((-1), m0)))))
def fX1_readTerms_11 (N : Nat → Nat) (R : Nat → Nat → XM → Option (Int32 × XM)) : Nat → Nat → Int32 → XM → Option (Int32 × XM)
  | 0, _, _, _ => none
  | n + 1, q0, x1, m0 => xv (fun q0 x1 m0 => fX1_readTerms_11 N R n q0 x1 m0) fun r11 =>
    if 8 ≤ (x1 : Int32) then (some (1, m0)) else (xca (fX1_operatorHere N q0 m0) fun v2 m1 => if (v2 : Int32) = (-1) then (some (1, m1)) else (xv (gi m1 q0 10) fun v3 => xv (v3 + 1 : Int32) fun v4 => xv (si m1 q0 10 v4) fun m5 => xca (R 1 q0  m5) fun v7 m6 => if (v7 : Int32) = 0 then (some (0, m6)) else (xcv (fX1_putCode N q0 v2 0 0 m6) fun m8 => xv (x1 + 1) fun v9 => r11 q0 v9 m8)))
def fX1_readTerms (N : Nat → Nat) (R : Nat → Nat → XM → Option (Int32 × XM)) (a0 : Nat) (m0 : XM) : Option (Int32 × XM) :=
    xca (R 1 a0  m0) fun v2 m1 => if (v2 : Int32) = 0 then (some (0, m1)) else (fX1_readTerms_11 N R XF a0 0 m1)
def fX1_readTerm_54 (N : Nat → Nat) (R : Nat → Nat → XM → Option (Int32 × XM)) (m0 : XM) : Option (Int32 × XM) :=
    some (0, m0)
def fX1_readTerm_164 (N : Nat → Nat) (R : Nat → Nat → XM → Option (Int32 × XM)) (m0 : XM) : Option (Int32 × XM) :=
    some (1, m0)
def fX1_readTerm_145 (N : Nat → Nat) (R : Nat → Nat → XM → Option (Int32 × XM)) (q0 : Nat) (x2 : Int32) (x3 : Int32) (x4 : Int32) (p0 : Nat) (s1 : Int32) (m0 : XM) : Option (Int32 × XM) :=
    xcv (fX1_putCode N p0 s1 x3 x2 m0) fun m1 => if (x4 : Int32) = 0 then (fX1_readTerm_164 N R m1) else (xca (fX1_mustTake N q0 41 m1) fun v3 m2 => if (v3 : Int32) = 0 then (some (0, m2)) else (fX1_readTerm_164 N R m2))
def fX1_readTerm (N : Nat → Nat) (R : Nat → Nat → XM → Option (Int32 × XM)) (a0 : Nat) (m0 : XM) : Option (Int32 × XM) :=
    xca (fX1_termFaultHere N a0 m0) fun v2 m1 => if (v2 : Int32) = 0 then (xv (gi m1 a0 11) fun v3 => xv (v3 + 1 : Int32) fun v4 => xv (si m1 a0 11 v4) fun m5 => xca (fX1_take N a0 40 m5) fun v7 m6 => if (v7 : Int32) = 0 then (xca (fX1_take N a0 267 m6) fun v9 m8 => if (v9 : Int32) = 0 then (xca (fX1_take N a0 259 m8) fun v11 m10 => if (v11 : Int32) = 0 then (xgr m10 a0 8 fun u12 => xv (gi m10 a0 10) fun v13 => xald N m10 u12 v13 fun v14 => xca (fX1_readKey N a0 m10) fun v16 m15 => if (v16 : Int32) = (-1) then (some (0, m15)) else (xca (fX1_take N a0 40 m15) fun v18 m17 => if (v18 : Int32) = 0 then (fX1_readTerm_145 N R a0 v14 v16 v18 a0 1 m17) else (fX1_readTerm_145 N R a0 v14 v16 v18 a0 2 m17))) else (xgr m10 a0 9 fun u19 => xv (gi m10 a0 10) fun v20 => xv (v20 - 1 : Int32) fun v21 => xald N m10 u19 v21 fun v22 => xcv (fX1_putCode N a0 0 v22 0 m10) fun m23 => some (1, m23))) else (xcv (fX1_putCode N a0 3 0 0 m8) fun m24 => some (1, m24))) else (xca (R 0 a0  m6) fun v26 m25 => if (v26 : Int32) = 0 then (fX1_readTerm_54 N R m25) else (xca (fX1_mustTake N a0 41 m25) fun v28 m27 => if (v28 : Int32) = 0 then (fX1_readTerm_54 N R m27) else (some (1, m27))))) else (xca (fX1_refuse N a0 v2 m1) fun v30 m29 => xnb v30 (some (v30, m29)))
def gX1_readTerms (N : Nat → Nat) : Nat → Nat → Nat → XM → Option (Int32 × XM)
  | 0, _, _, _ => none
  | e + 1, t, q, m0 => xv (fun t q  m0 => gX1_readTerms N e t q  m0) fun R =>
    if t = 0 then fX1_readTerms N R q  m0 else if t = 1 then fX1_readTerm N R q  m0 else none
def fX1_readDeed_179 (N : Nat → Nat) (m0 : XM) : Option (Int32 × XM) :=
    some (0, m0)
def fX1_readDeed_128 (N : Nat → Nat) (q0 : Nat) (q3 : Nat) (x4 : Int32) (m0 : XM) : Option (Int32 × XM) :=
    xgr m0 q3 4 fun u1 => xv (gi m0 q3 0) fun v2 => xast N m0 u1 x4 v2 fun m3 => xv (si m3 q0 11 0) fun m4 => xca (gX1_readTerms N 40 0 q0  m4) fun v6 m5 => xgr m5 q3 5 fun u7 => xv (gi m5 q3 0) fun v8 => xast N m5 u7 x4 v8 fun m9 => if (v6 : Int32) = 0 then (fX1_readDeed_179 N m9) else (xca (fX1_mustTake N q0 59 m9) fun v11 m10 => if (v11 : Int32) = 0 then (fX1_readDeed_179 N m10) else (some (1, m10)))
def fX1_readDeed_101 (N : Nat → Nat) (q0 : Nat) (x2 : Int32) (q3 : Nat) (x4 : Int32) (p0 : Nat) (s1 : Int32) (s2 : Int32) (m0 : XM) : Option (Int32 × XM) :=
    xast N m0 p0 s1 s2 fun m1 => if (x2 : Int32) = 0 then (fX1_readDeed_128 N q0 q3 x4 m1) else (xgr m1 q3 6 fun u2 => xald N m1 u2 x4 fun v3 => if (v3 : Int32) = (-1) then (some (0, m1)) else (xca (fX1_mustTake N q0 61 m1) fun v5 m4 => if (v5 : Int32) = 0 then (some (0, m4)) else (fX1_readDeed_128 N q0 q3 x4 m4)))
def fX1_readDeed_67 (N : Nat → Nat) (q0 : Nat) (x2 : Int32) (q3 : Nat) (x4 : Int32) (m0 : XM) : Option (Int32 × XM) :=
    xgr m0 q0 3 fun u1 => xgr m0 q0 8 fun u2 => xv (gi m0 q0 10) fun v3 => xald N m0 u2 v3 fun v4 => xast N m0 u1 x4 v4 fun m5 => xgr m5 q3 6 fun u6 => if (x2 : Int32) = 0 then (fX1_readDeed_101 N q0 x2 q3 x4 u6 x4 (-1) m5) else (xca (fX1_readKey N q0 m5) fun v8 m7 => fX1_readDeed_101 N q0 x2 q3 x4 u6 x4 v8 m7)
def fX1_readDeed (N : Nat → Nat) (a0 : Nat) (a1 : Int32) (a2 : Int32) (m0 : XM) : Option (Int32 × XM) :=
    xgr m0 a0 0 fun u1 => xgr m0 u1 13 fun u2 => xv (gi m0 u2 3) fun v3 => if (v3 : Int32) < 300 then (xv (gi m0 u2 3) fun v4 => xv (v4 + 1 : Int32) fun v5 => xv (si m0 u2 3 v5) fun m6 => if (a1 : Int32) = (-1) then (fX1_readDeed_67 N a0 a2 u2 v3 m6) else (xgr m6 a0 0 fun u7 => xgr m6 u7 7 fun u8 => xald N m6 u8 a1 fun v9 => if (v9 : Int32) = (-1) then (xgr m6 a0 0 fun u10 => xgr m6 u10 7 fun u11 => xast N m6 u11 a1 v3 fun m12 => fX1_readDeed_67 N a0 a2 u2 v3 m12) else (fX1_readDeed_67 N a0 a2 u2 v3 m6))) else (xca (fX1_refuse N a0 3 m0) fun v14 m13 => xnb v14 (some (v14, m13)))
def fX1_readVariable (N : Nat → Nat) (a0 : Nat) (a1 : Int32) (a2 : Int32) (m0 : XM) : Option (Int32 × XM) :=
    xca (fX1_readName N a0 a1 a2 m0) fun v2 m1 => if (v2 : Int32) = 0 then (some (0, m1)) else (xca (fX1_take N a0 61 m1) fun v4 m3 => if (v4 : Int32) = 0 then (xca (fX1_mustTake N a0 59 m3) fun v6 m5 => xnb v6 (some (v6, m5))) else (xca (fX1_readDeed N a0 a2 0 m3) fun v8 m7 => xnb v8 (some (v8, m7))))
def fX1_readFunction_107 (N : Nat → Nat) (m0 : XM) : Option (Int32 × XM) :=
    some (0, m0)
def fX1_readFunction_22 (N : Nat → Nat) : Nat → Nat → Int32 → Int32 → XM → Option (Int32 × XM)
  | 0, _, _, _, _ => none
  | n + 1, q0, x2, x3, m0 => xv (fun q0 x2 x3 m0 => fX1_readFunction_22 N n q0 x2 x3 m0) fun r22 =>
    xgr m0 q0 7 fun u1 => xv (gi m0 q0 10) fun v2 => xald N m0 u1 v2 fun v3 => if (v3 : Int32) = 257 then (if (x3 : Int32) < 4 then (xca (fX1_readDeed N q0 x2 1 m0) fun v14 m13 => if (v14 : Int32) = 0 then (some (0, m13)) else (xv (x3 + 1) fun v15 => r22 q0 x2 v15 m13)) else (xca (fX1_refuse N q0 3 m0) fun v17 m16 => xnb v17 (some (v17, m16)))) else (xgr m0 q0 0 fun u4 => xgr m0 u4 6 fun u5 => xast N m0 u5 x2 x3 fun m6 => xca (fX1_mustTake N q0 266 m6) fun v8 m7 => if (v8 : Int32) = 0 then (fX1_readFunction_107 N m7) else (xca (fX1_readDeed N q0 x2 0 m7) fun v10 m9 => if (v10 : Int32) = 0 then (fX1_readFunction_107 N m9) else (xca (fX1_mustTake N q0 125 m9) fun v12 m11 => if (v12 : Int32) = 0 then (fX1_readFunction_107 N m11) else (some (1, m11)))))
def fX1_readFunction (N : Nat → Nat) (a0 : Nat) (a1 : Int32) (a2 : Int32) (m0 : XM) : Option (Int32 × XM) :=
    xca (fX1_readName N a0 a1 a2 m0) fun v2 m1 => if (v2 : Int32) = 0 then (some (0, m1)) else (xca (fX1_mustTake N a0 123 m1) fun v4 m3 => if (v4 : Int32) = 0 then (some (0, m3)) else (fX1_readFunction_22 N XF a0 a2 0 m3))
def fX1_readMember (N : Nat → Nat) (a0 : Nat) (a1 : Int32) (a2 : Int32) (m0 : XM) : Option (Int32 × XM) :=
    xgr m0 a0 7 fun u1 => xv (gi m0 a0 10) fun v2 => xald N m0 u1 v2 fun v3 => if (v3 : Int32) = 262 then (xgr m0 a0 0 fun u5 => xcv (fX6_addMember N u5 a2 0 m0) fun m6 => xca (fX1_readConstant N a0 a1 a2 m6) fun v8 m7 => xnb v8 (some (v8, m7))) else (if (v3 : Int32) = 263 then (xgr m0 a0 0 fun u10 => xcv (fX6_addMember N u10 a2 1 m0) fun m11 => xca (fX1_readVariable N a0 a1 a2 m11) fun v13 m12 => xnb v13 (some (v13, m12))) else (if (v3 : Int32) = 264 then (xgr m0 a0 0 fun u15 => xcv (fX6_addMember N u15 a2 2 m0) fun m16 => xv (gi m16 a0 10) fun v17 => xv (v17 + 1 : Int32) fun v18 => xv (si m16 a0 10 v18) fun m19 => xca (fX1_readDeed N a0 a2 0 m19) fun v21 m20 => xnb v21 (some (v21, m20))) else (if (v3 : Int32) = 265 then (xgr m0 a0 0 fun u23 => xcv (fX6_addMember N u23 a2 4 m0) fun m24 => xca (fX1_readFunction N a0 a1 a2 m24) fun v26 m25 => xnb v26 (some (v26, m25))) else (xgr m0 a0 0 fun u27 => xcv (fX6_addMember N u27 a2 3 m0) fun m28 => xca (fX1_readDeed N a0 a2 1 m28) fun v30 m29 => xnb v30 (some (v30, m29))))))
def fX1_readUnit_34 (N : Nat → Nat) : Nat → Nat → Int32 → Int32 → XM → Option (Int32 × XM)
  | 0, _, _, _, _ => none
  | n + 1, q0, x1, x2, m0 => xv (fun q0 x1 x2 m0 => fX1_readUnit_34 N n q0 x1 x2 m0) fun r34 =>
    xca (fX1_take N q0 125 m0) fun v2 m1 => if (v2 : Int32) = 0 then (xca (fX1_isMemberHere N q0 m1) fun v4 m3 => if (v4 : Int32) = 0 then (xca (fX1_refuse N q0 1 m3) fun v13 m12 => xnb v13 (some (v13, m12))) else (if (x2 : Int32) < 12 then (xv (x1 * 12 : Int32) fun v5 => xv (v5 + x2 : Int32) fun v6 => xca (fX1_readMember N q0 x1 v6 m3) fun v8 m7 => if (v8 : Int32) = 0 then (some (0, m7)) else (xv (x2 + 1) fun v9 => r34 q0 x1 v9 m7)) else (xca (fX1_refuse N q0 3 m3) fun v11 m10 => xnb v11 (some (v11, m10))))) else (some (1, m1))
def fX1_readUnit (N : Nat → Nat) (a0 : Nat) (a1 : Int32) (m0 : XM) : Option (Int32 × XM) :=
    if (a1 : Int32) < 7 then (xv (gi m0 a0 10) fun v1 => xv (v1 + 1 : Int32) fun v2 => xv (si m0 a0 10 v2) fun m3 => xca (fX1_readHead N a0 a1 m3) fun v5 m4 => if (v5 : Int32) = 0 then (some (0, m4)) else (fX1_readUnit_34 N XF a0 a1 0 m4)) else (xca (fX1_refuse N a0 3 m0) fun v7 m6 => xnb v7 (some (v7, m6)))
def fX1_readMain_128 (N : Nat → Nat) (r25 : Nat → Int32 → XM → Option (Int32 × XM)) (q0 : Nat) (x1 : Int32) (p0 : Nat) (s1 : Int32) (s2 : Int32) (m0 : XM) : Option (Int32 × XM) :=
    xca (fX1_readDeed N p0 s1 s2 m0) fun v2 m1 => if (v2 : Int32) = 0 then (some (0, m1)) else (xv (x1 + 1) fun v3 => r25 q0 v3 m1)
def fX1_readMain_70 (N : Nat → Nat) (r25 : Nat → Int32 → XM → Option (Int32 × XM)) (q0 : Nat) (x1 : Int32) (m0 : XM) : Option (Int32 × XM) :=
    if (x1 : Int32) < 10 then (xgr m0 q0 0 fun u1 => xgr m0 u1 12 fun u2 => xgr m0 q0 0 fun u3 => xgr m0 u3 13 fun u4 => xv (gi m0 u4 3) fun v5 => xast N m0 u2 x1 v5 fun m6 => xgr m6 q0 0 fun u7 => xv (x1 + 1 : Int32) fun v8 => xv (si m6 u7 11 v8) fun m9 => xca (fX1_take N q0 264 m9) fun v11 m10 => if (v11 : Int32) = 0 then (fX1_readMain_128 N r25 q0 x1 q0 (-1) 1 m10) else (fX1_readMain_128 N r25 q0 x1 q0 (-1) 0 m10)) else (xca (fX1_refuse N q0 3 m0) fun v13 m12 => xnb v13 (some (v13, m12)))
def fX1_readMain_25 (N : Nat → Nat) : Nat → Nat → Int32 → XM → Option (Int32 × XM)
  | 0, _, _, _ => none
  | n + 1, q0, x1, m0 => xv (fun q0 x1 m0 => fX1_readMain_25 N n q0 x1 m0) fun r25 =>
    xca (fX1_take N q0 125 m0) fun v2 m1 => if (v2 : Int32) = 0 then (xgr m1 q0 7 fun u3 => xv (gi m1 q0 10) fun v4 => xald N m1 u3 v4 fun v5 => if (v5 : Int32) = 257 then (fX1_readMain_70 N r25 q0 x1 m1) else (xgr m1 q0 7 fun u6 => xv (gi m1 q0 10) fun v7 => xald N m1 u6 v7 fun v8 => if (v8 : Int32) = 264 then (fX1_readMain_70 N r25 q0 x1 m1) else (xca (fX1_refuse N q0 1 m1) fun v10 m9 => xnb v10 (some (v10, m9))))) else (some (1, m1))
def fX1_readMain (N : Nat → Nat) (a0 : Nat) (m0 : XM) : Option (Int32 × XM) :=
    xca (fX1_take N a0 261 m0) fun v2 m1 => if (v2 : Int32) = 0 then (some (1, m1)) else (xca (fX1_mustTake N a0 123 m1) fun v4 m3 => if (v4 : Int32) = 0 then (some (0, m3)) else (fX1_readMain_25 N XF a0 0 m3))
def fX1_lookUp (N : Nat → Nat) (a0 : Nat) (a1 : Int32) (m0 : XM) : Option (Int32 × XM) :=
    xgr m0 a0 1 fun u1 => xdv 26 <| xv (a1 / 26 : Int32) fun v2 => xald N m0 u1 v2 fun v3 => if (v3 : Int32) = (-1) then (some ((-1), m0)) else (xgr m0 a0 0 fun u4 => xgr m0 u4 10 fun u5 => xv (v3 * 26 : Int32) fun v6 => xdv 26 <| xv (xrem a1 26) fun v7 => xv (v6 + v7 : Int32) fun v8 => xald N m0 u5 v8 fun v9 => some (v9, m0))
def fX1_refuseName (N : Nat → Nat) (a0 : Nat) (a1 : Int32) (m0 : XM) : Option (Int32 × XM) :=
    xv (si m0 a0 12 5) fun m1 => xv (si m1 a0 13 a1) fun m2 => some (0, m2)
def fX1_resolveTarget_35 (N : Nat → Nat) (q0 : Nat) (x1 : Int32) (m0 : XM) : Option (Int32 × XM) :=
    xgr m0 q0 3 fun u1 => xald N m0 u1 x1 fun v2 => xca (fX1_refuseName N q0 v2 m0) fun v4 m3 => xnb v4 (some (v4, m3))
def fX1_resolveTarget (N : Nat → Nat) (a0 : Nat) (a1 : Int32) (m0 : XM) : Option (Int32 × XM) :=
    xgr m0 a0 0 fun u1 => xgr m0 u1 13 fun u2 => xgr m0 u2 6 fun u3 => xald N m0 u3 a1 fun v4 => xca (fX1_lookUp N a0 v4 m0) fun v6 m5 => if (v6 : Int32) = (-1) then (fX1_resolveTarget_35 N a0 a1 m5) else (xgr m5 a0 0 fun u7 => xgr m5 u7 4 fun u8 => xald N m5 u8 v6 fun v9 => if (v9 : Int32) = 1 then (xgr m5 a0 0 fun u10 => xgr m5 u10 13 fun u11 => xgr m5 u11 6 fun u12 => xast N m5 u12 a1 v6 fun m13 => some (1, m13)) else (fX1_resolveTarget_35 N a0 a1 m5))
def fX1_resolveCode_60 (N : Nat → Nat) (q0 : Nat) (x1 : Int32) (m0 : XM) : Option (Int32 × XM) :=
    xgr m0 q0 2 fun u1 => xald N m0 u1 x1 fun v2 => xca (fX1_refuseName N q0 v2 m0) fun v4 m3 => xnb v4 (some (v4, m3))
def fX1_resolveCode_57 (N : Nat → Nat) (q0 : Nat) (x1 : Int32) (q2 : Nat) (x3 : Int32) (s0 : Int32) (s1 : Int32) (m0 : XM) : Option (Int32 × XM) :=
    if (s0 : Int32) = s1 then (xgr m0 q0 0 fun u1 => xgr m0 u1 4 fun u2 => xald N m0 u2 x3 fun v3 => if (v3 : Int32) = 0 then (xgr m0 q2 1 fun u6 => xast N m0 u6 x1 0 fun m7 => xgr m7 q2 2 fun u8 => xgr m7 q0 0 fun u9 => xgr m7 u9 6 fun u10 => xald N m7 u10 x3 fun v11 => xast N m7 u8 x1 v11 fun m12 => some (1, m12)) else (xgr m0 q2 2 fun u4 => xast N m0 u4 x1 x3 fun m5 => some (1, m5))) else (fX1_resolveCode_60 N q0 x1 m0)
def fX1_resolveCode_42 (N : Nat → Nat) (q0 : Nat) (x1 : Int32) (q2 : Nat) (x3 : Int32) (s0 : Int32) (m0 : XM) : Option (Int32 × XM) :=
    xgr m0 q2 1 fun u1 => xald N m0 u1 x1 fun v2 => if (v2 : Int32) = 2 then (fX1_resolveCode_57 N q0 x1 q2 x3 s0 1 m0) else (fX1_resolveCode_57 N q0 x1 q2 x3 s0 0 m0)
def fX1_resolveCode (N : Nat → Nat) (a0 : Nat) (a1 : Int32) (m0 : XM) : Option (Int32 × XM) :=
    xgr m0 a0 0 fun u1 => xgr m0 u1 13 fun u2 => xgr m0 u2 2 fun u3 => xald N m0 u3 a1 fun v4 => xca (fX1_lookUp N a0 v4 m0) fun v6 m5 => if (v6 : Int32) = (-1) then (fX1_resolveCode_60 N a0 a1 m5) else (xgr m5 a0 0 fun u7 => xgr m5 u7 4 fun u8 => xald N m5 u8 v6 fun v9 => if (v9 : Int32) = 4 then (fX1_resolveCode_42 N a0 a1 u2 v6 1 m5) else (fX1_resolveCode_42 N a0 a1 u2 v6 0 m5))
def fX1_resolveAll_85 (N : Nat → Nat) (r10 : Nat → Nat → Int32 → XM → Option (Int32 × XM)) (r45 : Nat → Nat → Int32 → Int32 → XM → Option (Int32 × XM)) (q0 : Nat) (q1 : Nat) (x2 : Int32) (x3 : Int32) (m0 : XM) : Option (Int32 × XM) :=
    xv (x3 + 1) fun v1 => r45 q0 q1 x2 v1 m0
def fX1_resolveAll_75 (N : Nat → Nat) (r10 : Nat → Nat → Int32 → XM → Option (Int32 × XM)) (r45 : Nat → Nat → Int32 → Int32 → XM → Option (Int32 × XM)) (q0 : Nat) (q1 : Nat) (x2 : Int32) (x3 : Int32) (m0 : XM) : Option (Int32 × XM) :=
    xca (fX1_resolveCode N q0 x3 m0) fun v2 m1 => if (v2 : Int32) = 0 then (some (0, m1)) else (fX1_resolveAll_85 N r10 r45 q0 q1 x2 x3 m1)
def fX1_resolveAll_45 (N : Nat → Nat) (r10 : Nat → Nat → Int32 → XM → Option (Int32 × XM)) : Nat → Nat → Nat → Int32 → Int32 → XM → Option (Int32 × XM)
  | 0, _, _, _, _, _ => none
  | n + 1, q0, q1, x2, x3, m0 => xv (fun q0 q1 x2 x3 m0 => fX1_resolveAll_45 N r10 n q0 q1 x2 x3 m0) fun r45 =>
    xgr m0 q1 5 fun u1 => xald N m0 u1 x2 fun v2 => if v2 ≤ (x3 : Int32) then (xv (x2 + 1) fun v3 => r10 q0 q1 v3 m0) else (xgr m0 q1 1 fun u4 => xald N m0 u4 x3 fun v5 => if (v5 : Int32) = 1 then (fX1_resolveAll_75 N r10 r45 q0 q1 x2 x3 m0) else (xgr m0 q1 1 fun u6 => xald N m0 u6 x3 fun v7 => if (v7 : Int32) = 2 then (fX1_resolveAll_75 N r10 r45 q0 q1 x2 x3 m0) else (fX1_resolveAll_85 N r10 r45 q0 q1 x2 x3 m0)))
def fX1_resolveAll_38 (N : Nat → Nat) (r10 : Nat → Nat → Int32 → XM → Option (Int32 × XM)) (q0 : Nat) (q1 : Nat) (x2 : Int32) (m0 : XM) : Option (Int32 × XM) :=
    xgr m0 q1 4 fun u1 => xald N m0 u1 x2 fun v2 => fX1_resolveAll_45 N r10 XF q0 q1 x2 v2 m0
def fX1_resolveAll_10 (N : Nat → Nat) : Nat → Nat → Nat → Int32 → XM → Option (Int32 × XM)
  | 0, _, _, _, _ => none
  | n + 1, q0, q1, x2, m0 => xv (fun q0 q1 x2 m0 => fX1_resolveAll_10 N n q0 q1 x2 m0) fun r10 =>
    xv (gi m0 q1 3) fun v1 => if v1 ≤ (x2 : Int32) then (some (1, m0)) else (xgr m0 q1 6 fun u2 => xald N m0 u2 x2 fun v3 => if (v3 : Int32) = (-1) then (fX1_resolveAll_38 N r10 q0 q1 x2 m0) else (xca (fX1_resolveTarget N q0 x2 m0) fun v5 m4 => if (v5 : Int32) = 0 then (some (0, m4)) else (fX1_resolveAll_38 N r10 q0 q1 x2 m4)))
def fX1_resolveAll (N : Nat → Nat) (a0 : Nat) (m0 : XM) : Option (Int32 × XM) :=
    xgr m0 a0 0 fun u1 => xgr m0 u1 13 fun u2 => fX1_resolveAll_10 N XF a0 u2 0 m0
def fX1_readText_75 (N : Nat → Nat) (q0 : Nat) (x3 : Int32) (m0 : XM) : Option (Int32 × XM) :=
    if (x3 : Int32) = 0 then (xv (gi m0 q0 12) fun v1 => some (v1, m0)) else (xca (fX1_readMain N q0 m0) fun v3 m2 => if (v3 : Int32) = 0 then (xv (gi m2 q0 12) fun v4 => some (v4, m2)) else (xca (fX1_mustTake N q0 (-1) m2) fun v6 m5 => if (v6 : Int32) = 0 then (xv (gi m5 q0 12) fun v7 => some (v7, m5)) else (xca (fX1_resolveAll N q0 m5) fun v9 m8 => xv (gi m8 q0 12) fun v10 => some (v10, m8))))
def fX1_readText_36 (N : Nat → Nat) : Nat → Nat → Int32 → Int32 → XM → Option (Int32 × XM)
  | 0, _, _, _, _ => none
  | n + 1, q0, x3, x4, m0 => xv (fun q0 x3 x4 m0 => fX1_readText_36 N n q0 x3 x4 m0) fun r36 =>
    if 7 < (x4 : Int32) then (fX1_readText_75 N q0 x3 m0) else (if (x3 : Int32) = 0 then (fX1_readText_75 N q0 x3 m0) else (xgr m0 q0 7 fun u1 => xv (gi m0 q0 10) fun v2 => xald N m0 u1 v2 fun v3 => if (v3 : Int32) = 260 then (xca (fX1_readUnit N q0 x4 m0) fun v5 m4 => xv (x4 + 1) fun v6 => r36 q0 v5 v6 m4) else (fX1_readText_75 N q0 x3 m0)))
def fX1_readText (N : Nat → Nat) (a0 : Nat) (a1 : Nat) (a2 : Int32) (m0 : XM) : Option (Int32 × XM) :=
    xcv (fX1_cutTokens N a0 a1 a2 m0) fun m1 => xgr m1 a0 0 fun u2 => xcv (fX6_clear N u2 m1) fun m3 => xgr m3 a0 1 fun u4 => xcv (fJ7_fill_53178 N u4 (-1) m3) fun m5 => xv (si m5 a0 10 0) fun m6 => xv (si m6 a0 12 0) fun m7 => fX1_readText_36 N XF a0 1 0 m7
def fX1_faultPlace (N : Nat → Nat) (a0 : Nat) (m0 : XM) : Option (Int32 × XM) :=
    xv (gi m0 a0 13) fun v1 => some (v1, m0)
def fX1_handOver (N : Nat → Nat) (a0 : Nat) (a1 : Nat) (m0 : XM) : Option (Nat × XM) :=
    xgr m0 a0 0 fun u1 => xv (sr m0 a0 0 (some a1)) fun m2 => some (u1, m2)
