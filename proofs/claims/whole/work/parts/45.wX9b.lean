set_option maxRecDepth 20000 in
set_option maxHeartbeats 4000000 in
theorem jX9_members_57 {G : XG} {l : Launch} {d : Nat} {X : XX} (F : xF (xE G d) G X mX9_members) (hdep : 49 ≤ d) : ∀ (q0 : Nat) (x1 : Int32) (x2 : Int32) (m0 : XM), isa G q0 9 → xJ (xE G d) (xQ xrV G X mX9_members) G l X mX9_members 57 [(0, .ref (xad G q0)), (1, .int x1), (2, .int x2)] [] m0 (fX9_members_57 (xln G) q0 x1 x2 m0) := by
  intro q0 x1 x2 m0 hq0
  unfold fX9_members_57
  refine xj_iconst F 1 dX9_members_57 (by decide) ?_
  refine xj_goto (tgt := 62) F dX9_members_58 (by decide) ?_
  exact jX9_members_62 F hdep q0 x1 x2 1 m0 hq0
set_option maxRecDepth 20000 in
set_option maxHeartbeats 4000000 in
theorem wX9_members {G : XG} {l : Launch} {d : Nat} (hn : xN G) (hdep : 49 ≤ d) {m0 : XM} (hT : xT G m0) {a0 : Nat} {a1 : Int32} (ha0 : isa G a0 9) : ∀ z, fX9_members (xln G) a0 a1 m0 = some z → xMet G l mX9_members d [.ref (xad G a0), .int a1] m0 (xrV z) := by
  refine xMet_of (by decide +kernel) hn hT (Nat.le_of_ble_eq_true rfl) (fun X F => ?_)
  refine xj_sub (lv' := [(0, .ref (xad G a0)), (1, .int a1)]) [0, 1] rfl ?_
  unfold fX9_members
  refine xj_aload_n F 0 dX9_members_0 rfl ?_
  refine xj_getR F ha0 lgX9_23 dX9_members_1 (fun u1 hu1 => ?_)
  refine xj_iconst F 5 dX9_members_4 (by decide) ?_
  refine xj_bipush F 15 dX9_members_5 (by decide) ?_
  refine xj_iload_n F 1 dX9_members_7 rfl ?_
  refine xj_imul F dX9_members_8 (fun v2 => ?_)
  refine xj_iadd F dX9_members_9 (fun v3 => ?_)
  refine xj_iconst F 2 dX9_members_10 (by decide) ?_
  refine xj_iadd F dX9_members_11 (fun v4 => ?_)
  refine xj_iald F hu1 dX9_members_12 (fun v5 => ?_)
  refine xj_istore_n (lv' := [(2, .int v5), (0, .ref (xad G a0)), (1, .int a1)]) F dX9_members_13 (by decide) rfl ?_
  refine xj_aload_n F 1 dX9_members_14 rfl ?_
  refine xj_ldcS (i := 10) F (List.mem_of_getElem? (i := 10) rfl) dX9_members_15 ?_
  refine xj_callVI (b := a0) (As := [.ref (G.1.2.1 10)]) (d' := 4) F ha0 lmX9_144 rfl rfl (Nat.le_of_ble_eq_true rfl) (xfit (Nat.le_trans (Nat.le_of_ble_eq_true rfl) hdep)) dX9_members_17 (fun hT z hz => wX9_isWord (xnd F) (Nat.le_refl _) hT (a0 := a0) (a1 := 10) ha0 (by decide) z hz) (fun v7 m6 => ?_)
  refine xj_if_ne (tgt := 57) F dX9_members_20 (by decide) ?_ ?_
  · refine xj_sub (lv' := [(0, .ref (xad G a0)), (1, .int a1), (2, .int v5)]) [1, 2, 0] rfl ?_
    exact jX9_members_57 F hdep a0 a1 v5 m6 ha0
  · refine xj_aload_n F 1 dX9_members_23 rfl ?_
    refine xj_ldcS (i := 11) F (List.mem_of_getElem? (i := 11) rfl) dX9_members_24 ?_
    refine xj_callVI (b := a0) (As := [.ref (G.1.2.1 11)]) (d' := 4) F ha0 lmX9_144 rfl rfl (Nat.le_of_ble_eq_true rfl) (xfit (Nat.le_trans (Nat.le_of_ble_eq_true rfl) hdep)) dX9_members_26 (fun hT z hz => wX9_isWord (xnd F) (Nat.le_refl _) hT (a0 := a0) (a1 := 11) ha0 (by decide) z hz) (fun v9 m8 => ?_)
    refine xj_if_ne (tgt := 57) F dX9_members_29 (by decide) ?_ ?_
    · refine xj_sub (lv' := [(0, .ref (xad G a0)), (1, .int a1), (2, .int v5)]) [1, 2, 0] rfl ?_
      exact jX9_members_57 F hdep a0 a1 v5 m8 ha0
    · refine xj_aload_n F 1 dX9_members_32 rfl ?_
      refine xj_ldcS (i := 12) F (List.mem_of_getElem? (i := 12) rfl) dX9_members_33 ?_
      refine xj_callVI (b := a0) (As := [.ref (G.1.2.1 12)]) (d' := 4) F ha0 lmX9_144 rfl rfl (Nat.le_of_ble_eq_true rfl) (xfit (Nat.le_trans (Nat.le_of_ble_eq_true rfl) hdep)) dX9_members_35 (fun hT z hz => wX9_isWord (xnd F) (Nat.le_refl _) hT (a0 := a0) (a1 := 12) ha0 (by decide) z hz) (fun v11 m10 => ?_)
      refine xj_if_ne (tgt := 57) F dX9_members_38 (by decide) ?_ ?_
      · refine xj_sub (lv' := [(0, .ref (xad G a0)), (1, .int a1), (2, .int v5)]) [1, 2, 0] rfl ?_
        exact jX9_members_57 F hdep a0 a1 v5 m10 ha0
      · refine xj_aload_n F 1 dX9_members_41 rfl ?_
        refine xj_ldcS (i := 13) F (List.mem_of_getElem? (i := 13) rfl) dX9_members_42 ?_
        refine xj_callVI (b := a0) (As := [.ref (G.1.2.1 13)]) (d' := 4) F ha0 lmX9_144 rfl rfl (Nat.le_of_ble_eq_true rfl) (xfit (Nat.le_trans (Nat.le_of_ble_eq_true rfl) hdep)) dX9_members_44 (fun hT z hz => wX9_isWord (xnd F) (Nat.le_refl _) hT (a0 := a0) (a1 := 13) ha0 (by decide) z hz) (fun v13 m12 => ?_)
        refine xj_if_ne (tgt := 57) F dX9_members_47 (by decide) ?_ ?_
        · refine xj_sub (lv' := [(0, .ref (xad G a0)), (1, .int a1), (2, .int v5)]) [1, 2, 0] rfl ?_
          exact jX9_members_57 F hdep a0 a1 v5 m12 ha0
        · refine xj_aload_n F 1 dX9_members_50 rfl ?_
          refine xj_callVI (b := a0) (As := []) (d' := 2) F ha0 lmX9_162 rfl rfl (Nat.le_of_ble_eq_true rfl) (xfit (Nat.le_trans (Nat.le_of_ble_eq_true rfl) hdep)) dX9_members_51 (fun hT z hz => wX9_isUnitHere (xnd F) (Nat.le_refl _) hT (a0 := a0) ha0 z hz) (fun v15 m14 => ?_)
          refine xj_if_eq (tgt := 61) F dX9_members_54 (by decide) ?_ ?_
          · refine xj_iconst F 0 dX9_members_61 (by decide) ?_
            refine xj_sub (lv' := [(0, .ref (xad G a0)), (1, .int a1), (2, .int v5)]) [1, 2, 0] rfl ?_
            exact jX9_members_62 F hdep a0 a1 v5 0 m14 ha0
          · refine xj_sub (lv' := [(0, .ref (xad G a0)), (1, .int a1), (2, .int v5)]) [1, 2, 0] rfl ?_
            exact jX9_members_57 F hdep a0 a1 v5 m14 ha0
set_option maxRecDepth 20000 in
set_option maxHeartbeats 4000000 in
theorem jX9_unitHere_248 {G : XG} {l : Launch} {d : Nat} {X : XX} (F : xF (xE G d) G X mX9_unitHere) (hdep : 50 ≤ d) : ∀ (q0 : Nat) (m0 : XM), isa G q0 9 → xJ (xE G d) (xQ xrV G X mX9_unitHere) G l X mX9_unitHere 248 [(0, .ref (xad G q0))] [] m0 (fX9_unitHere_248 (xln G) q0 m0) := by
  intro q0 m0 hq0
  unfold fX9_unitHere_248
  refine xj_aload_n F 0 dX9_unitHere_248 rfl ?_
  refine xj_bipush F 125 dX9_unitHere_249 (by decide) ?_
  refine xj_callVV (b := q0) (As := [.int 125]) (d' := 3) F hq0 lmX9_195 rfl rfl (Nat.le_of_ble_eq_true rfl) (xfit (Nat.le_trans (Nat.le_of_ble_eq_true rfl) hdep)) dX9_unitHere_251 (fun hT z hz => wX9_must (xnd F) (Nat.le_refl _) hT (a0 := q0) (a1 := 125) hq0 z hz) (fun m1 => ?_)
  exact xj_retV F rfl dX9_unitHere_254
set_option maxRecDepth 20000 in
set_option maxHeartbeats 4000000 in
theorem jX9_unitHere_223 {G : XG} {l : Launch} {d : Nat} {X : XX} (F : xF (xE G d) G X mX9_unitHere) (hdep : 50 ≤ d) : ∀ (n : Nat) (q0 : Nat) (x5 : Int32) (m0 : XM), isa G q0 9 → xJ (xE G d) (xQ xrV G X mX9_unitHere) G l X mX9_unitHere 223 [(0, .ref (xad G q0)), (5, .int x5)] [] m0 (fX9_unitHere_223 (xln G) n q0 x5 m0) := by
  intro n
  induction n with
  | zero => intro q0 x5 m0 hq0; exact xj_none
  | succ n hr223 =>
    intro q0 x5 m0 hq0
    unfold fX9_unitHere_223
    generalize hrg223 : (fun q0 x5 m0 => fX9_unitHere_223 (xln G) n q0 x5 m0) = r223
    have hr223 : ∀ (q0 : Nat) (x5 : Int32) (m0 : XM), isa G q0 9 → xJ (xE G d) (xQ xrV G X mX9_unitHere) G l X mX9_unitHere 223 [(0, .ref (xad G q0)), (5, .int x5)] [] m0 (r223 q0 x5 m0) := by
      subst hrg223
      exact hr223
    clear hrg223
    refine xj_eq (xv_eq _ _) ?_
    refine xj_aload_n F 0 dX9_unitHere_223 rfl ?_
    refine xj_callVI (b := q0) (As := []) (d' := 0) F hq0 lmX9_140 rfl rfl (Nat.le_of_ble_eq_true rfl) (xfit (Nat.le_trans (Nat.le_of_ble_eq_true rfl) hdep)) dX9_unitHere_224 (fun hT z hz => wX9_fine (xnd F) (Nat.le_refl _) hT (a0 := q0) hq0 z hz) (fun v2 m1 => ?_)
    refine xj_if_eq (tgt := 248) F dX9_unitHere_227 (by decide) ?_ ?_
    · refine xj_sub (lv' := [(0, .ref (xad G q0))]) [0] rfl ?_
      exact jX9_unitHere_248 F hdep q0 m1 hq0
    · refine xj_aload_n F 0 dX9_unitHere_230 rfl ?_
      refine xj_callVI (b := q0) (As := []) (d' := 1) F hq0 lmX9_123 rfl rfl (Nat.le_of_ble_eq_true rfl) (xfit (Nat.le_trans (Nat.le_of_ble_eq_true rfl) hdep)) dX9_unitHere_231 (fun hT z hz => wX9_here (xnd F) (Nat.le_refl _) hT (a0 := q0) hq0 z hz) (fun v4 m3 => ?_)
      refine xj_bipush F 125 dX9_unitHere_234 (by decide) ?_
      refine xj_icmp_eq (tgt := 248) F dX9_unitHere_236 (by decide) ?_ ?_
      · refine xj_sub (lv' := [(0, .ref (xad G q0))]) [0] rfl ?_
        exact jX9_unitHere_248 F hdep q0 m3 hq0
      · refine xj_aload_n F 0 dX9_unitHere_239 rfl ?_
        refine xj_iload F 1 dX9_unitHere_240 rfl ?_
        refine xj_callVV (b := q0) (As := [.int x5]) (d' := 49) F hq0 lmX9_251 rfl rfl (Nat.le_of_ble_eq_true rfl) (xfit (Nat.le_trans (Nat.le_of_ble_eq_true rfl) hdep)) dX9_unitHere_242 (fun hT z hz => wX9_members (xnd F) (Nat.le_refl _) hT (a0 := q0) (a1 := x5) hq0 z hz) (fun m5 => ?_)
        refine xj_goto (tgt := 223) F dX9_unitHere_245 (by decide) ?_
        exact hr223 q0 x5 m5 hq0
set_option maxRecDepth 20000 in
set_option maxHeartbeats 4000000 in
theorem jX9_unitHere_147 {G : XG} {l : Launch} {d : Nat} {X : XX} (F : xF (xE G d) G X mX9_unitHere) (hdep : 50 ≤ d) : ∀ (q0 : Nat) (x3 : Int32) (x4 : Int32) (m0 : XM), isa G q0 9 → xJ (xE G d) (xQ xrV G X mX9_unitHere) G l X mX9_unitHere 147 [(0, .ref (xad G q0)), (3, .int x3), (4, .int x4)] [] m0 (fX9_unitHere_147 (xln G) q0 x3 x4 m0) := by
  intro q0 x3 x4 m0 hq0
  unfold fX9_unitHere_147
  refine xj_aload_n F 0 dX9_unitHere_147 rfl ?_
  refine xj_bipush F 123 dX9_unitHere_148 (by decide) ?_
  refine xj_callVV (b := q0) (As := [.int 123]) (d' := 3) F hq0 lmX9_195 rfl rfl (Nat.le_of_ble_eq_true rfl) (xfit (Nat.le_trans (Nat.le_of_ble_eq_true rfl) hdep)) dX9_unitHere_150 (fun hT z hz => wX9_must (xnd F) (Nat.le_refl _) hT (a0 := q0) (a1 := 123) hq0 z hz) (fun m1 => ?_)
  refine xj_aload_n F 0 dX9_unitHere_153 rfl ?_
  refine xj_callVI (b := q0) (As := []) (d' := 0) F hq0 lmX9_140 rfl rfl (Nat.le_of_ble_eq_true rfl) (xfit (Nat.le_trans (Nat.le_of_ble_eq_true rfl) hdep)) dX9_unitHere_154 (fun hT z hz => wX9_fine (xnd F) (Nat.le_refl _) hT (a0 := q0) hq0 z hz) (fun v3 m2 => ?_)
  refine xj_if_ne (tgt := 161) F dX9_unitHere_157 (by decide) ?_ ?_
  · refine xj_aload_n F 0 dX9_unitHere_161 rfl ?_
    refine xj_getR F hq0 lgX9_23 dX9_unitHere_162 (fun u4 hu4 => ?_)
    refine xj_iconst F 0 dX9_unitHere_165 (by decide) ?_
    refine xj_iald F hu4 dX9_unitHere_166 (fun v5 => ?_)
    refine xj_istore (lv' := [(5, .int v5), (0, .ref (xad G q0)), (3, .int x3), (4, .int x4)]) F dX9_unitHere_167 (by decide) rfl ?_
    refine xj_aload_n F 1 dX9_unitHere_169 rfl ?_
    refine xj_getR F hq0 lgX9_23 dX9_unitHere_170 (fun u6 hu6 => ?_)
    refine xj_iconst F 5 dX9_unitHere_173 (by decide) ?_
    refine xj_bipush F 15 dX9_unitHere_174 (by decide) ?_
    refine xj_iload F 0 dX9_unitHere_176 rfl ?_
    refine xj_imul F dX9_unitHere_178 (fun v7 => ?_)
    refine xj_iadd F dX9_unitHere_179 (fun v8 => ?_)
    refine xj_iload_n F 2 dX9_unitHere_180 rfl ?_
    refine xj_iast F hu6 dX9_unitHere_181 (fun m9 => ?_)
    refine xj_aload_n F 1 dX9_unitHere_182 rfl ?_
    refine xj_getR F hq0 lgX9_23 dX9_unitHere_183 (fun u10 hu10 => ?_)
    refine xj_iconst F 5 dX9_unitHere_186 (by decide) ?_
    refine xj_bipush F 15 dX9_unitHere_187 (by decide) ?_
    refine xj_iload F 0 dX9_unitHere_189 rfl ?_
    refine xj_imul F dX9_unitHere_191 (fun v11 => ?_)
    refine xj_iadd F dX9_unitHere_192 (fun v12 => ?_)
    refine xj_iconst F 1 dX9_unitHere_193 (by decide) ?_
    refine xj_iadd F dX9_unitHere_194 (fun v13 => ?_)
    refine xj_iload F 3 dX9_unitHere_195 rfl ?_
    refine xj_iast F hu10 dX9_unitHere_197 (fun m14 => ?_)
    refine xj_aload_n F 1 dX9_unitHere_198 rfl ?_
    refine xj_getR F hq0 lgX9_23 dX9_unitHere_199 (fun u15 hu15 => ?_)
    refine xj_iconst F 5 dX9_unitHere_202 (by decide) ?_
    refine xj_bipush F 15 dX9_unitHere_203 (by decide) ?_
    refine xj_iload F 0 dX9_unitHere_205 rfl ?_
    refine xj_imul F dX9_unitHere_207 (fun v16 => ?_)
    refine xj_iadd F dX9_unitHere_208 (fun v17 => ?_)
    refine xj_iconst F 2 dX9_unitHere_209 (by decide) ?_
    refine xj_iadd F dX9_unitHere_210 (fun v18 => ?_)
    refine xj_iconst F 0 dX9_unitHere_211 (by decide) ?_
    refine xj_iast F hu15 dX9_unitHere_212 (fun m19 => ?_)
    refine xj_aload_n F 1 dX9_unitHere_213 rfl ?_
    refine xj_getR F hq0 lgX9_23 dX9_unitHere_214 (fun u20 hu20 => ?_)
    refine xj_iconst F 0 dX9_unitHere_217 (by decide) ?_
    refine xj_dup2 F dX9_unitHere_218 rfl rfl ?_
    refine xj_iald F hu20 dX9_unitHere_219 (fun v21 => ?_)
    refine xj_iconst F 1 dX9_unitHere_220 (by decide) ?_
    refine xj_iadd F dX9_unitHere_221 (fun v22 => ?_)
    refine xj_iast F hu20 dX9_unitHere_222 (fun m23 => ?_)
    refine xj_sub (lv' := [(0, .ref (xad G q0)), (5, .int v5)]) [1, 0] rfl ?_
    exact jX9_unitHere_223 F hdep XF q0 v5 m23 hq0
  · exact xj_retV F rfl dX9_unitHere_160
set_option maxRecDepth 20000 in
set_option maxHeartbeats 4000000 in
theorem jX9_unitHere_124 {G : XG} {l : Launch} {d : Nat} {X : XX} (F : xF (xE G d) G X mX9_unitHere) (hdep : 50 ≤ d) : ∀ (q0 : Nat) (x3 : Int32) (x5 : Int32) (s0 : Int32) (m0 : XM), isa G q0 9 → xJ (xE G d) (xQ xrV G X mX9_unitHere) G l X mX9_unitHere 124 [(0, .ref (xad G q0)), (3, .int x3), (5, .int x5)] [.int s0] m0 (fX9_unitHere_124 (xln G) q0 x3 x5 s0 m0) := by
  intro q0 x3 x5 s0 m0 hq0
  unfold fX9_unitHere_124
  refine xj_istore (lv' := [(4, .int s0), (0, .ref (xad G q0)), (3, .int x3), (5, .int x5)]) F dX9_unitHere_124 (by decide) rfl ?_
  refine xj_aload_n F 1 dX9_unitHere_126 rfl ?_
  refine xj_callVI (b := q0) (As := []) (d' := 0) F hq0 lmX9_140 rfl rfl (Nat.le_of_ble_eq_true rfl) (xfit (Nat.le_trans (Nat.le_of_ble_eq_true rfl) hdep)) dX9_unitHere_127 (fun hT z hz => wX9_fine (xnd F) (Nat.le_refl _) hT (a0 := q0) hq0 z hz) (fun v2 m1 => ?_)
  refine xj_if_eq (tgt := 147) F dX9_unitHere_130 (by decide) ?_ ?_
  · refine xj_sub (lv' := [(0, .ref (xad G q0)), (3, .int x3), (4, .int s0)]) [1, 2, 0] rfl ?_
    exact jX9_unitHere_147 F hdep q0 x3 s0 m1 hq0
  · refine xj_iload F 0 dX9_unitHere_133 rfl ?_
    refine xj_iconst F (-1) dX9_unitHere_135 (by decide) ?_
    refine xj_icmp_ne (tgt := 147) F dX9_unitHere_136 (by decide) ?_ ?_
    · refine xj_sub (lv' := [(0, .ref (xad G q0)), (3, .int x3), (4, .int s0)]) [1, 2, 0] rfl ?_
      exact jX9_unitHere_147 F hdep q0 x3 s0 m1 hq0
    · refine xj_aload_n F 1 dX9_unitHere_139 rfl ?_
      refine xj_iconst F 4 dX9_unitHere_140 (by decide) ?_
      refine xj_iload F 3 dX9_unitHere_141 rfl ?_
      refine xj_callVI (b := q0) (As := [.int 4, .int x5]) (d' := 0) F hq0 lmX9_151 rfl rfl (Nat.le_of_ble_eq_true rfl) (xfit (Nat.le_trans (Nat.le_of_ble_eq_true rfl) hdep)) dX9_unitHere_143 (fun hT z hz => wX9_wrong (xnd F) (Nat.le_refl _) hT (a0 := q0) (a1 := 4) (a2 := x5) hq0 z hz) (fun v4 m3 => ?_)
      refine xj_pop F dX9_unitHere_146 rfl ?_
      refine xj_sub (lv' := [(0, .ref (xad G q0)), (3, .int x3), (4, .int s0)]) [1, 2, 0] rfl ?_
      exact jX9_unitHere_147 F hdep q0 x3 s0 m3 hq0
set_option maxRecDepth 20000 in
set_option maxHeartbeats 4000000 in
theorem jX9_unitHere_75 {G : XG} {l : Launch} {d : Nat} {X : XX} (F : xF (xE G d) G X mX9_unitHere) (hdep : 50 ≤ d) : ∀ (q0 : Nat) (x3 : Int32) (m0 : XM), isa G q0 9 → xJ (xE G d) (xQ xrV G X mX9_unitHere) G l X mX9_unitHere 75 [(0, .ref (xad G q0)), (3, .int x3)] [] m0 (fX9_unitHere_75 (xln G) q0 x3 m0) := by
  intro q0 x3 m0 hq0
  unfold fX9_unitHere_75
  refine xj_iconst F (-1) dX9_unitHere_75 (by decide) ?_
  refine xj_istore (lv' := [(4, .int (-1)), (0, .ref (xad G q0)), (3, .int x3)]) F dX9_unitHere_76 (by decide) rfl ?_
  refine xj_aload_n F 1 dX9_unitHere_78 rfl ?_
  refine xj_bipush F 58 dX9_unitHere_79 (by decide) ?_
  refine xj_callVI (b := q0) (As := [.int 58]) (d' := 2) F hq0 lmX9_148 rfl rfl (Nat.le_of_ble_eq_true rfl) (xfit (Nat.le_trans (Nat.le_of_ble_eq_true rfl) hdep)) dX9_unitHere_81 (fun hT z hz => wX9_takesSign (xnd F) (Nat.le_refl _) hT (a0 := q0) (a1 := 58) hq0 z hz) (fun v2 m1 => ?_)
  refine xj_if_eq (tgt := 147) F dX9_unitHere_84 (by decide) ?_ ?_
  · refine xj_sub (lv' := [(0, .ref (xad G q0)), (3, .int x3), (4, .int (-1))]) [1, 2, 0] rfl ?_
    exact jX9_unitHere_147 F hdep q0 x3 (-1) m1 hq0
  · refine xj_aload_n F 1 dX9_unitHere_87 rfl ?_
    refine xj_callVI (b := q0) (As := []) (d' := 1) F hq0 lmX9_123 rfl rfl (Nat.le_of_ble_eq_true rfl) (xfit (Nat.le_trans (Nat.le_of_ble_eq_true rfl) hdep)) dX9_unitHere_88 (fun hT z hz => wX9_here (xnd F) (Nat.le_refl _) hT (a0 := q0) hq0 z hz) (fun v4 m3 => ?_)
    refine xj_pop F dX9_unitHere_91 rfl ?_
    refine xj_aload_n F 1 dX9_unitHere_92 rfl ?_
    refine xj_get F hq0 lgX9_110 dX9_unitHere_93 (fun v5 => ?_)
    refine xj_istore (lv' := [(5, .int v5), (4, .int (-1)), (0, .ref (xad G q0)), (3, .int x3)]) F dX9_unitHere_96 (by decide) rfl ?_
    refine xj_aload_n F 2 dX9_unitHere_98 rfl ?_
    refine xj_callVI (b := q0) (As := []) (d' := 3) F hq0 lmX9_199 rfl rfl (Nat.le_of_ble_eq_true rfl) (xfit (Nat.le_trans (Nat.le_of_ble_eq_true rfl) hdep)) dX9_unitHere_99 (fun hT z hz => wX9_letterHere (xnd F) (Nat.le_refl _) hT (a0 := q0) hq0 z hz) (fun v7 m6 => ?_)
    refine xj_istore (lv' := [(6, .int v7), (5, .int v5), (4, .int (-1)), (0, .ref (xad G q0)), (3, .int x3)]) F dX9_unitHere_102 (by decide) rfl ?_
    refine xj_aload_n F 3 dX9_unitHere_104 rfl ?_
    refine xj_callVI (b := q0) (As := []) (d' := 0) F hq0 lmX9_140 rfl rfl (Nat.le_of_ble_eq_true rfl) (xfit (Nat.le_trans (Nat.le_of_ble_eq_true rfl) hdep)) dX9_unitHere_105 (fun hT z hz => wX9_fine (xnd F) (Nat.le_refl _) hT (a0 := q0) hq0 z hz) (fun v9 m8 => ?_)
    refine xj_if_eq (tgt := 123) F dX9_unitHere_108 (by decide) ?_ ?_
    · refine xj_iconst F (-1) dX9_unitHere_123 (by decide) ?_
      refine xj_sub (lv' := [(0, .ref (xad G q0)), (3, .int x3), (5, .int v5)]) [3, 4, 1] rfl ?_
      exact jX9_unitHere_124 F hdep q0 x3 v5 (-1) m8 hq0
    · refine xj_aload_n F 3 dX9_unitHere_111 rfl ?_
      refine xj_getR F hq0 lgX9_23 dX9_unitHere_112 (fun u10 hu10 => ?_)
      refine xj_iload F 0 dX9_unitHere_115 rfl ?_
      refine xj_callSI (As := [.ref (xad G u10), .int v7]) (d' := 1) F lmX9_247 rfl rfl (Nat.le_of_ble_eq_true rfl) (xfit (Nat.le_trans (Nat.le_of_ble_eq_true rfl) hdep)) dX9_unitHere_117 (fun hT z hz => wX9_unitBy (xnd F) (Nat.le_refl _) hT (a0 := u10) (a1 := v7) hu10 z hz) (fun v12 m11 => ?_)
      refine xj_goto (tgt := 124) F dX9_unitHere_120 (by decide) ?_
      refine xj_sub (lv' := [(0, .ref (xad G q0)), (3, .int x3), (5, .int v5)]) [3, 4, 1] rfl ?_
      exact jX9_unitHere_124 F hdep q0 x3 v5 v12 m11 hq0
set_option maxRecDepth 20000 in
set_option maxHeartbeats 4000000 in
theorem wX9_unitHere {G : XG} {l : Launch} {d : Nat} (hn : xN G) (hdep : 50 ≤ d) {m0 : XM} (hT : xT G m0) {a0 : Nat} (ha0 : isa G a0 9) : ∀ z, fX9_unitHere (xln G) a0 m0 = some z → xMet G l mX9_unitHere d [.ref (xad G a0)] m0 (xrV z) := by
  refine xMet_of (by decide +kernel) hn hT (Nat.le_of_ble_eq_true rfl) (fun X F => ?_)
  refine xj_sub (lv' := [(0, .ref (xad G a0))]) [0] rfl ?_
  unfold fX9_unitHere
  refine xj_aload_n F 0 dX9_unitHere_0 rfl ?_
  refine xj_get F ha0 lgX9_110 dX9_unitHere_1 (fun v1 => ?_)
  refine xj_istore_n (lv' := [(1, .int v1), (0, .ref (xad G a0))]) F dX9_unitHere_4 (by decide) rfl ?_
  refine xj_aload_n F 1 dX9_unitHere_5 rfl ?_
  refine xj_getR F ha0 lgX9_23 dX9_unitHere_6 (fun u2 hu2 => ?_)
  refine xj_iconst F 0 dX9_unitHere_9 (by decide) ?_
  refine xj_iald F hu2 dX9_unitHere_10 (fun v3 => ?_)
  refine xj_bipush F 7 dX9_unitHere_11 (by decide) ?_
  refine xj_icmp_ne (tgt := 24) F dX9_unitHere_13 (by decide) ?_ ?_
  · refine xj_aload_n F 1 dX9_unitHere_24 rfl ?_
    refine xj_dup F dX9_unitHere_25 rfl ?_
    refine xj_get F ha0 lgX9_110 dX9_unitHere_26 (fun v4 => ?_)
    refine xj_iconst F 4 dX9_unitHere_29 (by decide) ?_
    refine xj_iadd F dX9_unitHere_30 (fun v5 => ?_)
    refine xj_put F ha0 lpX9_110 dX9_unitHere_31 (fun m6 => ?_)
    refine xj_aload_n F 1 dX9_unitHere_34 rfl ?_
    refine xj_callVI (b := a0) (As := []) (d' := 1) F ha0 lmX9_123 rfl rfl (Nat.le_of_ble_eq_true rfl) (xfit (Nat.le_trans (Nat.le_of_ble_eq_true rfl) hdep)) dX9_unitHere_35 (fun hT z hz => wX9_here (xnd F) (Nat.le_refl _) hT (a0 := a0) ha0 z hz) (fun v8 m7 => ?_)
    refine xj_pop F dX9_unitHere_38 rfl ?_
    refine xj_aload_n F 1 dX9_unitHere_39 rfl ?_
    refine xj_get F ha0 lgX9_110 dX9_unitHere_40 (fun v9 => ?_)
    refine xj_istore_n (lv' := [(2, .int v9), (1, .int v1), (0, .ref (xad G a0))]) F dX9_unitHere_43 (by decide) rfl ?_
    refine xj_aload_n F 2 dX9_unitHere_44 rfl ?_
    refine xj_callVI (b := a0) (As := []) (d' := 3) F ha0 lmX9_199 rfl rfl (Nat.le_of_ble_eq_true rfl) (xfit (Nat.le_trans (Nat.le_of_ble_eq_true rfl) hdep)) dX9_unitHere_45 (fun hT z hz => wX9_letterHere (xnd F) (Nat.le_refl _) hT (a0 := a0) ha0 z hz) (fun v11 m10 => ?_)
    refine xj_istore_n (lv' := [(3, .int v11), (2, .int v9), (1, .int v1), (0, .ref (xad G a0))]) F dX9_unitHere_48 (by decide) rfl ?_
    refine xj_aload_n F 3 dX9_unitHere_49 rfl ?_
    refine xj_callVI (b := a0) (As := []) (d' := 0) F ha0 lmX9_140 rfl rfl (Nat.le_of_ble_eq_true rfl) (xfit (Nat.le_trans (Nat.le_of_ble_eq_true rfl) hdep)) dX9_unitHere_50 (fun hT z hz => wX9_fine (xnd F) (Nat.le_refl _) hT (a0 := a0) ha0 z hz) (fun v13 m12 => ?_)
    refine xj_if_eq (tgt := 75) F dX9_unitHere_53 (by decide) ?_ ?_
    · refine xj_sub (lv' := [(0, .ref (xad G a0)), (3, .int v11)]) [3, 0] rfl ?_
      exact jX9_unitHere_75 F hdep a0 v11 m12 ha0
    · refine xj_aload_n F 3 dX9_unitHere_56 rfl ?_
      refine xj_getR F ha0 lgX9_23 dX9_unitHere_57 (fun u14 hu14 => ?_)
      refine xj_iload_n F 0 dX9_unitHere_60 rfl ?_
      refine xj_callSI (As := [.ref (xad G u14), .int v11]) (d' := 1) F lmX9_247 rfl rfl (Nat.le_of_ble_eq_true rfl) (xfit (Nat.le_trans (Nat.le_of_ble_eq_true rfl) hdep)) dX9_unitHere_61 (fun hT z hz => wX9_unitBy (xnd F) (Nat.le_refl _) hT (a0 := u14) (a1 := v11) hu14 z hz) (fun v16 m15 => ?_)
      refine xj_iconst F (-1) dX9_unitHere_64 (by decide) ?_
      refine xj_icmp_eq (tgt := 75) F dX9_unitHere_65 (by decide) ?_ ?_
      · refine xj_sub (lv' := [(0, .ref (xad G a0)), (3, .int v11)]) [3, 0] rfl ?_
        exact jX9_unitHere_75 F hdep a0 v11 m15 ha0
      · refine xj_aload_n F 3 dX9_unitHere_68 rfl ?_
        refine xj_iconst F 4 dX9_unitHere_69 (by decide) ?_
        refine xj_iload_n F 1 dX9_unitHere_70 rfl ?_
        refine xj_callVI (b := a0) (As := [.int 4, .int v9]) (d' := 0) F ha0 lmX9_151 rfl rfl (Nat.le_of_ble_eq_true rfl) (xfit (Nat.le_trans (Nat.le_of_ble_eq_true rfl) hdep)) dX9_unitHere_71 (fun hT z hz => wX9_wrong (xnd F) (Nat.le_refl _) hT (a0 := a0) (a1 := 4) (a2 := v9) ha0 z hz) (fun v18 m17 => ?_)
        refine xj_pop F dX9_unitHere_74 rfl ?_
        refine xj_sub (lv' := [(0, .ref (xad G a0)), (3, .int v11)]) [3, 0] rfl ?_
        exact jX9_unitHere_75 F hdep a0 v11 m17 ha0
  · refine xj_aload_n F 1 dX9_unitHere_16 rfl ?_
    refine xj_iconst F 3 dX9_unitHere_17 (by decide) ?_
    refine xj_iload_n F 0 dX9_unitHere_18 rfl ?_
    refine xj_callVI (b := a0) (As := [.int 3, .int v1]) (d' := 0) F ha0 lmX9_151 rfl rfl (Nat.le_of_ble_eq_true rfl) (xfit (Nat.le_trans (Nat.le_of_ble_eq_true rfl) hdep)) dX9_unitHere_19 (fun hT z hz => wX9_wrong (xnd F) (Nat.le_refl _) hT (a0 := a0) (a1 := 3) (a2 := v1) ha0 z hz) (fun v20 m19 => ?_)
    refine xj_pop F dX9_unitHere_22 rfl ?_
    exact xj_retV F rfl dX9_unitHere_23
set_option maxRecDepth 20000 in
set_option maxHeartbeats 4000000 in
theorem jX9_main_132 {G : XG} {l : Launch} {d : Nat} {X : XX} (F : xF (xE G d) G X mX9_main) (hdep : 48 ≤ d) {r6 : Nat → XM → Option XM} (hr6 : ∀ (q0 : Nat) (m0 : XM), isa G q0 9 → xJ (xE G d) (xQ xrV G X mX9_main) G l X mX9_main 6 [(0, .ref (xad G q0))] [] m0 (r6 q0 m0)) : ∀ (q0 : Nat) (m0 : XM), isa G q0 9 → xJ (xE G d) (xQ xrV G X mX9_main) G l X mX9_main 132 [(0, .ref (xad G q0))] [] m0 (fX9_main_132 (xln G) r6 q0 m0) := by
  intro q0 m0 hq0
  unfold fX9_main_132
  refine xj_goto (tgt := 6) F dX9_main_132 (by decide) ?_
  exact hr6 q0 m0 hq0
set_option maxRecDepth 20000 in
set_option maxHeartbeats 4000000 in
theorem jX9_main_97 {G : XG} {l : Launch} {d : Nat} {X : XX} (F : xF (xE G d) G X mX9_main) (hdep : 48 ≤ d) {r6 : Nat → XM → Option XM} (hr6 : ∀ (q0 : Nat) (m0 : XM), isa G q0 9 → xJ (xE G d) (xQ xrV G X mX9_main) G l X mX9_main 6 [(0, .ref (xad G q0))] [] m0 (r6 q0 m0)) : ∀ (q0 : Nat) (s0 : Int32) (m0 : XM), isa G q0 9 → xJ (xE G d) (xQ xrV G X mX9_main) G l X mX9_main 97 [(0, .ref (xad G q0))] [.int s0] m0 (fX9_main_97 (xln G) r6 q0 s0 m0) := by
  intro q0 s0 m0 hq0
  unfold fX9_main_97
  refine xj_istore_n (lv' := [(2, .int s0), (0, .ref (xad G q0))]) F dX9_main_97 (by decide) rfl ?_
  refine xj_aload_n F 1 dX9_main_98 rfl ?_
  refine xj_callVI (b := q0) (As := []) (d' := 0) F hq0 lmX9_140 rfl rfl (Nat.le_of_ble_eq_true rfl) (xfit (Nat.le_trans (Nat.le_of_ble_eq_true rfl) hdep)) dX9_main_99 (fun hT z hz => wX9_fine (xnd F) (Nat.le_refl _) hT (a0 := q0) hq0 z hz) (fun v2 m1 => ?_)
  refine xj_if_ne (tgt := 106) F dX9_main_102 (by decide) ?_ ?_
  · refine xj_aload_n F 1 dX9_main_106 rfl ?_
    refine xj_getR F hq0 lgX9_23 dX9_main_107 (fun u3 hu3 => ?_)
    refine xj_sipush F 3810 dX9_main_110 (by decide) ?_
    refine xj_aload_n F 1 dX9_main_113 rfl ?_
    refine xj_getR F hq0 lgX9_23 dX9_main_114 (fun u4 hu4 => ?_)
    refine xj_iconst F 4 dX9_main_117 (by decide) ?_
    refine xj_iald F hu4 dX9_main_118 (fun v5 => ?_)
    refine xj_iadd F dX9_main_119 (fun v6 => ?_)
    refine xj_iload_n F 0 dX9_main_120 rfl ?_
    refine xj_iast F hu3 dX9_main_121 (fun m7 => ?_)
    refine xj_aload_n F 1 dX9_main_122 rfl ?_
    refine xj_getR F hq0 lgX9_23 dX9_main_123 (fun u8 hu8 => ?_)
    refine xj_iconst F 4 dX9_main_126 (by decide) ?_
    refine xj_dup2 F dX9_main_127 rfl rfl ?_
    refine xj_iald F hu8 dX9_main_128 (fun v9 => ?_)
    refine xj_iconst F 1 dX9_main_129 (by decide) ?_
    refine xj_iadd F dX9_main_130 (fun v10 => ?_)
    refine xj_iast F hu8 dX9_main_131 (fun m11 => ?_)
    refine xj_sub (lv' := [(0, .ref (xad G q0))]) [1] rfl ?_
    exact jX9_main_132 F hdep hr6 q0 m11 hq0
  · exact xj_retV F rfl dX9_main_105
set_option maxRecDepth 20000 in
set_option maxHeartbeats 4000000 in
theorem jX9_main_53 {G : XG} {l : Launch} {d : Nat} {X : XX} (F : xF (xE G d) G X mX9_main) (hdep : 48 ≤ d) {r6 : Nat → XM → Option XM} (hr6 : ∀ (q0 : Nat) (m0 : XM), isa G q0 9 → xJ (xE G d) (xQ xrV G X mX9_main) G l X mX9_main 6 [(0, .ref (xad G q0))] [] m0 (r6 q0 m0)) : ∀ (q0 : Nat) (m0 : XM), isa G q0 9 → xJ (xE G d) (xQ xrV G X mX9_main) G l X mX9_main 53 [(0, .ref (xad G q0))] [] m0 (fX9_main_53 (xln G) r6 q0 m0) := by
  intro q0 m0 hq0
  unfold fX9_main_53
  refine xj_aload_n F 0 dX9_main_53 rfl ?_
  refine xj_getR F hq0 lgX9_23 dX9_main_54 (fun u1 hu1 => ?_)
  refine xj_iconst F 4 dX9_main_57 (by decide) ?_
  refine xj_iald F hu1 dX9_main_58 (fun v2 => ?_)
  refine xj_bipush F 10 dX9_main_59 (by decide) ?_
  refine xj_icmp_ne (tgt := 77) F dX9_main_61 (by decide) ?_ ?_
  · refine xj_aload_n F 0 dX9_main_77 rfl ?_
    refine xj_ldcS (i := 12) F (List.mem_of_getElem? (i := 12) rfl) dX9_main_78 ?_
    refine xj_callVI (b := q0) (As := [.ref (G.1.2.1 12)]) (d' := 5) F hq0 lmX9_189 rfl rfl (Nat.le_of_ble_eq_true rfl) (xfit (Nat.le_trans (Nat.le_of_ble_eq_true rfl) hdep)) dX9_main_80 (fun hT z hz => wX9_takesWord (xnd F) (Nat.le_refl _) hT (a0 := q0) (a1 := 12) hq0 (by decide) z hz) (fun v4 m3 => ?_)
    refine xj_if_eq (tgt := 93) F dX9_main_83 (by decide) ?_ ?_
    · refine xj_aload_n F 0 dX9_main_93 rfl ?_
      refine xj_callVI (b := q0) (As := []) (d' := 47) F hq0 lmX9_221 rfl rfl (Nat.le_of_ble_eq_true rfl) (xfit (Nat.le_trans (Nat.le_of_ble_eq_true rfl) hdep)) dX9_main_94 (fun hT z hz => wX9_setHere (xnd F) (Nat.le_refl _) hT (a0 := q0) hq0 z hz) (fun v6 m5 => ?_)
      exact jX9_main_97 F hdep hr6 q0 v6 m5 hq0
    · refine xj_aload_n F 0 dX9_main_86 rfl ?_
      refine xj_callVI (b := q0) (As := []) (d' := 47) F hq0 lmX9_238 rfl rfl (Nat.le_of_ble_eq_true rfl) (xfit (Nat.le_trans (Nat.le_of_ble_eq_true rfl) hdep)) dX9_main_87 (fun hT z hz => wX9_doHere (xnd F) (Nat.le_refl _) hT (a0 := q0) hq0 z hz) (fun v8 m7 => ?_)
      refine xj_goto (tgt := 97) F dX9_main_90 (by decide) ?_
      exact jX9_main_97 F hdep hr6 q0 v8 m7 hq0
  · refine xj_aload_n F 0 dX9_main_64 rfl ?_
    refine xj_iconst F 3 dX9_main_65 (by decide) ?_
    refine xj_aload_n F 0 dX9_main_66 rfl ?_
    refine xj_get F hq0 lgX9_110 dX9_main_67 (fun v9 => ?_)
    refine xj_callVI (b := q0) (As := [.int 3, .int v9]) (d' := 0) F hq0 lmX9_151 rfl rfl (Nat.le_of_ble_eq_true rfl) (xfit (Nat.le_trans (Nat.le_of_ble_eq_true rfl) hdep)) dX9_main_70 (fun hT z hz => wX9_wrong (xnd F) (Nat.le_refl _) hT (a0 := q0) (a1 := 3) (a2 := v9) hq0 z hz) (fun v11 m10 => ?_)
    refine xj_pop F dX9_main_73 rfl ?_
    refine xj_goto (tgt := 132) F dX9_main_74 (by decide) ?_
    exact jX9_main_132 F hdep hr6 q0 m10 hq0
set_option maxRecDepth 20000 in
set_option maxHeartbeats 4000000 in
theorem jX9_main_135 {G : XG} {l : Launch} {d : Nat} {X : XX} (F : xF (xE G d) G X mX9_main) (hdep : 48 ≤ d) : ∀ (q0 : Nat) (m0 : XM), isa G q0 9 → xJ (xE G d) (xQ xrV G X mX9_main) G l X mX9_main 135 [(0, .ref (xad G q0))] [] m0 (fX9_main_135 (xln G) q0 m0) := by
  intro q0 m0 hq0
  unfold fX9_main_135
  refine xj_aload_n F 0 dX9_main_135 rfl ?_
  refine xj_bipush F 125 dX9_main_136 (by decide) ?_
  refine xj_callVV (b := q0) (As := [.int 125]) (d' := 3) F hq0 lmX9_195 rfl rfl (Nat.le_of_ble_eq_true rfl) (xfit (Nat.le_trans (Nat.le_of_ble_eq_true rfl) hdep)) dX9_main_138 (fun hT z hz => wX9_must (xnd F) (Nat.le_refl _) hT (a0 := q0) (a1 := 125) hq0 z hz) (fun m1 => ?_)
  exact xj_retV F rfl dX9_main_141
set_option maxRecDepth 20000 in
set_option maxHeartbeats 4000000 in
theorem jX9_main_6 {G : XG} {l : Launch} {d : Nat} {X : XX} (F : xF (xE G d) G X mX9_main) (hdep : 48 ≤ d) : ∀ (n : Nat) (q0 : Nat) (m0 : XM), isa G q0 9 → xJ (xE G d) (xQ xrV G X mX9_main) G l X mX9_main 6 [(0, .ref (xad G q0))] [] m0 (fX9_main_6 (xln G) n q0 m0) := by
  intro n
  induction n with
  | zero => intro q0 m0 hq0; exact xj_none
  | succ n hr6 =>
    intro q0 m0 hq0
    unfold fX9_main_6
    generalize hrg6 : (fun q0 m0 => fX9_main_6 (xln G) n q0 m0) = r6
    have hr6 : ∀ (q0 : Nat) (m0 : XM), isa G q0 9 → xJ (xE G d) (xQ xrV G X mX9_main) G l X mX9_main 6 [(0, .ref (xad G q0))] [] m0 (r6 q0 m0) := by
      subst hrg6
      exact hr6
    clear hrg6
    refine xj_eq (xv_eq _ _) ?_
    refine xj_aload_n F 0 dX9_main_6 rfl ?_
    refine xj_callVI (b := q0) (As := []) (d' := 0) F hq0 lmX9_140 rfl rfl (Nat.le_of_ble_eq_true rfl) (xfit (Nat.le_trans (Nat.le_of_ble_eq_true rfl) hdep)) dX9_main_7 (fun hT z hz => wX9_fine (xnd F) (Nat.le_refl _) hT (a0 := q0) hq0 z hz) (fun v2 m1 => ?_)
    refine xj_if_eq (tgt := 135) F dX9_main_10 (by decide) ?_ ?_
    · exact jX9_main_135 F hdep q0 m1 hq0
    · refine xj_aload_n F 0 dX9_main_13 rfl ?_
      refine xj_callVI (b := q0) (As := []) (d' := 1) F hq0 lmX9_123 rfl rfl (Nat.le_of_ble_eq_true rfl) (xfit (Nat.le_trans (Nat.le_of_ble_eq_true rfl) hdep)) dX9_main_14 (fun hT z hz => wX9_here (xnd F) (Nat.le_refl _) hT (a0 := q0) hq0 z hz) (fun v4 m3 => ?_)
      refine xj_bipush F 125 dX9_main_17 (by decide) ?_
      refine xj_icmp_eq (tgt := 135) F dX9_main_19 (by decide) ?_ ?_
      · exact jX9_main_135 F hdep q0 m3 hq0
      · refine xj_aload_n F 0 dX9_main_22 rfl ?_
        refine xj_ldcS (i := 12) F (List.mem_of_getElem? (i := 12) rfl) dX9_main_23 ?_
        refine xj_callVI (b := q0) (As := [.ref (G.1.2.1 12)]) (d' := 4) F hq0 lmX9_144 rfl rfl (Nat.le_of_ble_eq_true rfl) (xfit (Nat.le_trans (Nat.le_of_ble_eq_true rfl) hdep)) dX9_main_25 (fun hT z hz => wX9_isWord (xnd F) (Nat.le_refl _) hT (a0 := q0) (a1 := 12) hq0 (by decide) z hz) (fun v6 m5 => ?_)
        refine xj_istore_n (lv' := [(1, .int v6), (0, .ref (xad G q0))]) F dX9_main_28 (by decide) rfl ?_
        refine xj_iload_n F 0 dX9_main_29 rfl ?_
        refine xj_if_ne (tgt := 53) F dX9_main_30 (by decide) ?_ ?_
        · refine xj_sub (lv' := [(0, .ref (xad G q0))]) [1] rfl ?_
          exact jX9_main_53 F hdep hr6 q0 m5 hq0
        · refine xj_aload_n F 1 dX9_main_33 rfl ?_
          refine xj_callVI (b := q0) (As := []) (d' := 2) F hq0 lmX9_162 rfl rfl (Nat.le_of_ble_eq_true rfl) (xfit (Nat.le_trans (Nat.le_of_ble_eq_true rfl) hdep)) dX9_main_34 (fun hT z hz => wX9_isUnitHere (xnd F) (Nat.le_refl _) hT (a0 := q0) hq0 z hz) (fun v8 m7 => ?_)
          refine xj_if_ne (tgt := 53) F dX9_main_37 (by decide) ?_ ?_
          · refine xj_sub (lv' := [(0, .ref (xad G q0))]) [1] rfl ?_
            exact jX9_main_53 F hdep hr6 q0 m7 hq0
          · refine xj_aload_n F 1 dX9_main_40 rfl ?_
            refine xj_iconst F 1 dX9_main_41 (by decide) ?_
            refine xj_aload_n F 1 dX9_main_42 rfl ?_
            refine xj_get F hq0 lgX9_110 dX9_main_43 (fun v9 => ?_)
            refine xj_callVI (b := q0) (As := [.int 1, .int v9]) (d' := 0) F hq0 lmX9_151 rfl rfl (Nat.le_of_ble_eq_true rfl) (xfit (Nat.le_trans (Nat.le_of_ble_eq_true rfl) hdep)) dX9_main_46 (fun hT z hz => wX9_wrong (xnd F) (Nat.le_refl _) hT (a0 := q0) (a1 := 1) (a2 := v9) hq0 z hz) (fun v11 m10 => ?_)
            refine xj_pop F dX9_main_49 rfl ?_
            refine xj_goto (tgt := 132) F dX9_main_50 (by decide) ?_
            refine xj_sub (lv' := [(0, .ref (xad G q0))]) [1] rfl ?_
            exact jX9_main_132 F hdep hr6 q0 m10 hq0
set_option maxRecDepth 20000 in
set_option maxHeartbeats 4000000 in
theorem wX9_main {G : XG} {l : Launch} {d : Nat} (hn : xN G) (hdep : 48 ≤ d) {m0 : XM} (hT : xT G m0) {a0 : Nat} (ha0 : isa G a0 9) : ∀ z, fX9_main (xln G) a0 m0 = some z → xMet G l mX9_main d [.ref (xad G a0)] m0 (xrV z) := by
  refine xMet_of (by decide +kernel) hn hT (Nat.le_of_ble_eq_true rfl) (fun X F => ?_)
  refine xj_sub (lv' := [(0, .ref (xad G a0))]) [0] rfl ?_
  unfold fX9_main
  refine xj_aload_n F 0 dX9_main_0 rfl ?_
  refine xj_bipush F 123 dX9_main_1 (by decide) ?_
  refine xj_callVV (b := a0) (As := [.int 123]) (d' := 3) F ha0 lmX9_195 rfl rfl (Nat.le_of_ble_eq_true rfl) (xfit (Nat.le_trans (Nat.le_of_ble_eq_true rfl) hdep)) dX9_main_3 (fun hT z hz => wX9_must (xnd F) (Nat.le_refl _) hT (a0 := a0) (a1 := 123) ha0 z hz) (fun m1 => ?_)
  exact jX9_main_6 F hdep XF a0 m1 ha0
set_option maxRecDepth 20000 in
set_option maxHeartbeats 4000000 in
theorem jX9_missing_148 {G : XG} {l : Launch} {d : Nat} {X : XX} (F : xF (xE G d) G X mX9_missing) (hdep : 2 ≤ d) {r4 : Nat → Int32 → Int32 → XM → Option (Int32 × XM)} (hr4 : ∀ (q0 : Nat) (x1 : Int32) (x2 : Int32) (m0 : XM), isa G q0 9 → xJ (xE G d) (xQ xrI G X mX9_missing) G l X mX9_missing 4 [(0, .ref (xad G q0)), (1, .int x1), (2, .int x2)] [] m0 (r4 q0 x1 x2 m0)) : ∀ (q0 : Nat) (x1 : Int32) (x2 : Int32) (m0 : XM), isa G q0 9 → xJ (xE G d) (xQ xrI G X mX9_missing) G l X mX9_missing 148 [(0, .ref (xad G q0)), (1, .int x1), (2, .int x2)] [] m0 (fX9_missing_148 (xln G) r4 q0 x1 x2 m0) := by
  intro q0 x1 x2 m0 hq0
  unfold fX9_missing_148
  refine xj_iinc F 2 1 (fun v1 => [(2, .int v1), (0, .ref (xad G q0)), (1, .int x1)]) dX9_missing_148 rfl (by decide) (by decide) (fun _ => rfl) (fun v1 => ?_)
  refine xj_goto (tgt := 4) F dX9_missing_151 (by decide) ?_
  refine xj_sub (lv' := [(0, .ref (xad G q0)), (1, .int x1), (2, .int v1)]) [1, 2, 0] rfl ?_
  exact hr4 q0 x1 v1 m0 hq0
set_option maxRecDepth 20000 in
set_option maxHeartbeats 4000000 in
theorem jX9_missing_145 {G : XG} {l : Launch} {d : Nat} {X : XX} (F : xF (xE G d) G X mX9_missing) (hdep : 2 ≤ d) {r4 : Nat → Int32 → Int32 → XM → Option (Int32 × XM)} (hr4 : ∀ (q0 : Nat) (x1 : Int32) (x2 : Int32) (m0 : XM), isa G q0 9 → xJ (xE G d) (xQ xrI G X mX9_missing) G l X mX9_missing 4 [(0, .ref (xad G q0)), (1, .int x1), (2, .int x2)] [] m0 (r4 q0 x1 x2 m0)) : ∀ (q0 : Nat) (x2 : Int32) (x4 : Int32) (m0 : XM), isa G q0 9 → xJ (xE G d) (xQ xrI G X mX9_missing) G l X mX9_missing 145 [(0, .ref (xad G q0)), (2, .int x2), (4, .int x4)] [] m0 (fX9_missing_145 (xln G) r4 q0 x2 x4 m0) := by
  intro q0 x2 x4 m0 hq0
  unfold fX9_missing_145
  refine xj_iload F 2 dX9_missing_145 rfl ?_
  refine xj_istore_n (lv' := [(1, .int x4), (0, .ref (xad G q0)), (2, .int x2), (4, .int x4)]) F dX9_missing_147 (by decide) rfl ?_
  refine xj_sub (lv' := [(0, .ref (xad G q0)), (1, .int x4), (2, .int x2)]) [1, 0, 2] rfl ?_
  exact jX9_missing_148 F hdep hr4 q0 x4 x2 m0 hq0
set_option maxRecDepth 20000 in
set_option maxHeartbeats 4000000 in
theorem jX9_missing_142 {G : XG} {l : Launch} {d : Nat} {X : XX} (F : xF (xE G d) G X mX9_missing) (hdep : 2 ≤ d) {r4 : Nat → Int32 → Int32 → XM → Option (Int32 × XM)} (hr4 : ∀ (q0 : Nat) (x1 : Int32) (x2 : Int32) (m0 : XM), isa G q0 9 → xJ (xE G d) (xQ xrI G X mX9_missing) G l X mX9_missing 4 [(0, .ref (xad G q0)), (1, .int x1), (2, .int x2)] [] m0 (r4 q0 x1 x2 m0)) : ∀ (q0 : Nat) (x1 : Int32) (x2 : Int32) (x4 : Int32) (s0 : Int32) (s1 : Int32) (m0 : XM), isa G q0 9 → xJ (xE G d) (xQ xrI G X mX9_missing) G l X mX9_missing 142 [(0, .ref (xad G q0)), (1, .int x1), (2, .int x2), (4, .int x4)] [.int s1, .int s0] m0 (fX9_missing_142 (xln G) r4 q0 x1 x2 x4 s0 s1 m0) := by
  intro q0 x1 x2 x4 s0 s1 m0 hq0
  unfold fX9_missing_142
  refine xj_icmp_eq (tgt := 148) F dX9_missing_142 (by decide) ?_ ?_
  · refine xj_sub (lv' := [(0, .ref (xad G q0)), (1, .int x1), (2, .int x2)]) [0, 1, 2] rfl ?_
    exact jX9_missing_148 F hdep hr4 q0 x1 x2 m0 hq0
  · refine xj_sub (lv' := [(0, .ref (xad G q0)), (2, .int x2), (4, .int x4)]) [0, 2, 3] rfl ?_
    exact jX9_missing_145 F hdep hr4 q0 x2 x4 m0 hq0
set_option maxRecDepth 20000 in
set_option maxHeartbeats 4000000 in
theorem jX9_missing_132 {G : XG} {l : Launch} {d : Nat} {X : XX} (F : xF (xE G d) G X mX9_missing) (hdep : 2 ≤ d) {r4 : Nat → Int32 → Int32 → XM → Option (Int32 × XM)} (hr4 : ∀ (q0 : Nat) (x1 : Int32) (x2 : Int32) (m0 : XM), isa G q0 9 → xJ (xE G d) (xQ xrI G X mX9_missing) G l X mX9_missing 4 [(0, .ref (xad G q0)), (1, .int x1), (2, .int x2)] [] m0 (r4 q0 x1 x2 m0)) : ∀ (q0 : Nat) (x1 : Int32) (x2 : Int32) (x3 : Int32) (x4 : Int32) (s0 : Int32) (m0 : XM), isa G q0 9 → xJ (xE G d) (xQ xrI G X mX9_missing) G l X mX9_missing 132 [(0, .ref (xad G q0)), (1, .int x1), (2, .int x2), (3, .int x3), (4, .int x4)] [.int s0] m0 (fX9_missing_132 (xln G) r4 q0 x1 x2 x3 x4 s0 m0) := by
  intro q0 x1 x2 x3 x4 s0 m0 hq0
  unfold fX9_missing_132
  refine xj_iload_n F 3 dX9_missing_132 rfl ?_
  refine xj_iconst F 2 dX9_missing_133 (by decide) ?_
  refine xj_icmp_ne (tgt := 141) F dX9_missing_134 (by decide) ?_ ?_
  · refine xj_iconst F 0 dX9_missing_141 (by decide) ?_
    refine xj_sub (lv' := [(0, .ref (xad G q0)), (1, .int x1), (2, .int x2), (4, .int x4)]) [0, 1, 2, 4] rfl ?_
    exact jX9_missing_142 F hdep hr4 q0 x1 x2 x4 s0 0 m0 hq0
  · refine xj_iconst F 1 dX9_missing_137 (by decide) ?_
    refine xj_goto (tgt := 142) F dX9_missing_138 (by decide) ?_
    refine xj_sub (lv' := [(0, .ref (xad G q0)), (1, .int x1), (2, .int x2), (4, .int x4)]) [0, 1, 2, 4] rfl ?_
    exact jX9_missing_142 F hdep hr4 q0 x1 x2 x4 s0 1 m0 hq0
set_option maxRecDepth 20000 in
set_option maxHeartbeats 4000000 in
theorem jX9_missing_105 {G : XG} {l : Launch} {d : Nat} {X : XX} (F : xF (xE G d) G X mX9_missing) (hdep : 2 ≤ d) {r4 : Nat → Int32 → Int32 → XM → Option (Int32 × XM)} (hr4 : ∀ (q0 : Nat) (x1 : Int32) (x2 : Int32) (m0 : XM), isa G q0 9 → xJ (xE G d) (xQ xrI G X mX9_missing) G l X mX9_missing 4 [(0, .ref (xad G q0)), (1, .int x1), (2, .int x2)] [] m0 (r4 q0 x1 x2 m0)) : ∀ (q0 : Nat) (x1 : Int32) (x2 : Int32) (x3 : Int32) (x4 : Int32) (s0 : Int32) (m0 : XM), isa G q0 9 → xJ (xE G d) (xQ xrI G X mX9_missing) G l X mX9_missing 105 [(0, .ref (xad G q0)), (1, .int x1), (2, .int x2), (3, .int x3), (4, .int x4)] [.int s0] m0 (fX9_missing_105 (xln G) r4 q0 x1 x2 x3 x4 s0 m0) := by
  intro q0 x1 x2 x3 x4 s0 m0 hq0
  unfold fX9_missing_105
  refine xj_istore (lv' := [(6, .int s0), (0, .ref (xad G q0)), (1, .int x1), (2, .int x2), (3, .int x3), (4, .int x4)]) F dX9_missing_105 (by decide) rfl ?_
  refine xj_iload F 0 dX9_missing_107 rfl ?_
  refine xj_iconst F (-1) dX9_missing_109 (by decide) ?_
  refine xj_icmp_eq (tgt := 145) F dX9_missing_110 (by decide) ?_ ?_
  · refine xj_sub (lv' := [(0, .ref (xad G q0)), (2, .int x2), (4, .int x4)]) [1, 3, 5] rfl ?_
    exact jX9_missing_145 F hdep hr4 q0 x2 x4 m0 hq0
  · refine xj_aload_n F 1 dX9_missing_113 rfl ?_
    refine xj_getR F hq0 lgX9_23 dX9_missing_114 (fun u1 hu1 => ?_)
    refine xj_iload F 0 dX9_missing_117 rfl ?_
    refine xj_iconst F 0 dX9_missing_119 (by decide) ?_
    refine xj_callSI (As := [.ref (xad G u1), .int s0, .int 0]) (d' := 0) F lmX9_104 rfl rfl (Nat.le_of_ble_eq_true rfl) (xfit (Nat.le_trans (Nat.le_of_ble_eq_true rfl) hdep)) dX9_missing_120 (fun hT z hz => wX9_ofMember (xnd F) (Nat.le_refl _) hT (a0 := u1) (a1 := s0) (a2 := 0) hu1 z hz) (fun v3 m2 => ?_)
    refine xj_iconst F 4 dX9_missing_123 (by decide) ?_
    refine xj_icmp_ne (tgt := 131) F dX9_missing_124 (by decide) ?_ ?_
    · refine xj_iconst F 0 dX9_missing_131 (by decide) ?_
      refine xj_sub (lv' := [(0, .ref (xad G q0)), (1, .int x1), (2, .int x2), (3, .int x3), (4, .int x4)]) [1, 2, 3, 4, 5] rfl ?_
      exact jX9_missing_132 F hdep hr4 q0 x1 x2 x3 x4 0 m2 hq0
    · refine xj_iconst F 1 dX9_missing_127 (by decide) ?_
      refine xj_goto (tgt := 132) F dX9_missing_128 (by decide) ?_
      refine xj_sub (lv' := [(0, .ref (xad G q0)), (1, .int x1), (2, .int x2), (3, .int x3), (4, .int x4)]) [1, 2, 3, 4, 5] rfl ?_
      exact jX9_missing_132 F hdep hr4 q0 x1 x2 x3 x4 1 m2 hq0
set_option maxRecDepth 20000 in
set_option maxHeartbeats 4000000 in
theorem jX9_missing_59 {G : XG} {l : Launch} {d : Nat} {X : XX} (F : xF (xE G d) G X mX9_missing) (hdep : 2 ≤ d) {r4 : Nat → Int32 → Int32 → XM → Option (Int32 × XM)} (hr4 : ∀ (q0 : Nat) (x1 : Int32) (x2 : Int32) (m0 : XM), isa G q0 9 → xJ (xE G d) (xQ xrI G X mX9_missing) G l X mX9_missing 4 [(0, .ref (xad G q0)), (1, .int x1), (2, .int x2)] [] m0 (r4 q0 x1 x2 m0)) : ∀ (q0 : Nat) (x1 : Int32) (x2 : Int32) (x3 : Int32) (x4 : Int32) (m0 : XM), isa G q0 9 → xJ (xE G d) (xQ xrI G X mX9_missing) G l X mX9_missing 59 [(0, .ref (xad G q0)), (1, .int x1), (2, .int x2), (3, .int x3), (4, .int x4)] [] m0 (fX9_missing_59 (xln G) r4 q0 x1 x2 x3 x4 m0) := by
  intro q0 x1 x2 x3 x4 m0 hq0
  unfold fX9_missing_59
  refine xj_aload_n F 0 dX9_missing_59 rfl ?_
  refine xj_getR F hq0 lgX9_23 dX9_missing_60 (fun u1 hu1 => ?_)
  refine xj_aload_n F 0 dX9_missing_63 rfl ?_
  refine xj_getR F hq0 lgX9_23 dX9_missing_64 (fun u2 hu2 => ?_)
  refine xj_iload_n F 2 dX9_missing_67 rfl ?_
  refine xj_iconst F 2 dX9_missing_68 (by decide) ?_
  refine xj_callSI (As := [.ref (xad G u2), .int x2, .int 2]) (d' := 0) F lmX9_254 rfl rfl (Nat.le_of_ble_eq_true rfl) (xfit (Nat.le_trans (Nat.le_of_ble_eq_true rfl) hdep)) dX9_missing_69 (fun hT z hz => wX9_ofTerm (xnd F) (Nat.le_refl _) hT (a0 := u2) (a1 := x2) (a2 := 2) hu2 z hz) (fun v4 m3 => ?_)
  refine xj_callSI (As := [.ref (xad G u1), .int v4]) (d' := 1) F lmX9_247 rfl rfl (Nat.le_of_ble_eq_true rfl) (xfit (Nat.le_trans (Nat.le_of_ble_eq_true rfl) hdep)) dX9_missing_72 (fun hT z hz => wX9_unitBy (xnd F) (Nat.le_refl _) hT (a0 := u1) (a1 := v4) hu1 z hz) (fun v6 m5 => ?_)
  refine xj_istore (lv' := [(5, .int v6), (0, .ref (xad G q0)), (1, .int x1), (2, .int x2), (3, .int x3), (4, .int x4)]) F dX9_missing_75 (by decide) rfl ?_
  refine xj_iload F 0 dX9_missing_77 rfl ?_
  refine xj_iconst F (-1) dX9_missing_79 (by decide) ?_
  refine xj_icmp_ne (tgt := 87) F dX9_missing_80 (by decide) ?_ ?_
  · refine xj_aload_n F 1 dX9_missing_87 rfl ?_
    refine xj_getR F hq0 lgX9_23 dX9_missing_88 (fun u7 hu7 => ?_)
    refine xj_iload F 0 dX9_missing_91 rfl ?_
    refine xj_aload_n F 1 dX9_missing_93 rfl ?_
    refine xj_getR F hq0 lgX9_23 dX9_missing_94 (fun u8 hu8 => ?_)
    refine xj_iload_n F 3 dX9_missing_97 rfl ?_
    refine xj_iconst F 3 dX9_missing_98 (by decide) ?_
    refine xj_callSI (As := [.ref (xad G u8), .int x2, .int 3]) (d' := 0) F lmX9_254 rfl rfl (Nat.le_of_ble_eq_true rfl) (xfit (Nat.le_trans (Nat.le_of_ble_eq_true rfl) hdep)) dX9_missing_99 (fun hT z hz => wX9_ofTerm (xnd F) (Nat.le_refl _) hT (a0 := u8) (a1 := x2) (a2 := 3) hu8 z hz) (fun v10 m9 => ?_)
    refine xj_callSI (As := [.ref (xad G u7), .int v6, .int v10]) (d' := 1) F lmX9_215 rfl rfl (Nat.le_of_ble_eq_true rfl) (xfit (Nat.le_trans (Nat.le_of_ble_eq_true rfl) hdep)) dX9_missing_102 (fun hT z hz => wX9_named (xnd F) (Nat.le_refl _) hT (a0 := u7) (a1 := v6) (a2 := v10) hu7 z hz) (fun v12 m11 => ?_)
    refine xj_sub (lv' := [(0, .ref (xad G q0)), (1, .int x1), (2, .int x2), (3, .int x3), (4, .int x4)]) [1, 2, 3, 4, 5] rfl ?_
    exact jX9_missing_105 F hdep hr4 q0 x1 x2 x3 x4 v12 m11 hq0
  · refine xj_iconst F (-1) dX9_missing_83 (by decide) ?_
    refine xj_goto (tgt := 105) F dX9_missing_84 (by decide) ?_
    refine xj_sub (lv' := [(0, .ref (xad G q0)), (1, .int x1), (2, .int x2), (3, .int x3), (4, .int x4)]) [1, 2, 3, 4, 5] rfl ?_
    exact jX9_missing_105 F hdep hr4 q0 x1 x2 x3 x4 (-1) m5 hq0
set_option maxRecDepth 20000 in
set_option maxHeartbeats 4000000 in
theorem jX9_missing_45 {G : XG} {l : Launch} {d : Nat} {X : XX} (F : xF (xE G d) G X mX9_missing) (hdep : 2 ≤ d) {r4 : Nat → Int32 → Int32 → XM → Option (Int32 × XM)} (hr4 : ∀ (q0 : Nat) (x1 : Int32) (x2 : Int32) (m0 : XM), isa G q0 9 → xJ (xE G d) (xQ xrI G X mX9_missing) G l X mX9_missing 4 [(0, .ref (xad G q0)), (1, .int x1), (2, .int x2)] [] m0 (r4 q0 x1 x2 m0)) : ∀ (q0 : Nat) (x1 : Int32) (x2 : Int32) (x3 : Int32) (x4 : Int32) (m0 : XM), isa G q0 9 → xJ (xE G d) (xQ xrI G X mX9_missing) G l X mX9_missing 45 [(0, .ref (xad G q0)), (1, .int x1), (2, .int x2), (3, .int x3), (4, .int x4)] [] m0 (fX9_missing_45 (xln G) r4 q0 x1 x2 x3 x4 m0) := by
  intro q0 x1 x2 x3 x4 m0 hq0
  unfold fX9_missing_45
  refine xj_iload_n F 1 dX9_missing_45 rfl ?_
  refine xj_iconst F (-1) dX9_missing_46 (by decide) ?_
  refine xj_icmp_eq (tgt := 59) F dX9_missing_47 (by decide) ?_ ?_
  · exact jX9_missing_59 F hdep hr4 q0 x1 x2 x3 x4 m0 hq0
  · refine xj_iload F 4 dX9_missing_50 rfl ?_
    refine xj_iload_n F 1 dX9_missing_52 rfl ?_
    refine xj_icmp_le (tgt := 59) F dX9_missing_53 (by decide) ?_ ?_
    · exact jX9_missing_59 F hdep hr4 q0 x1 x2 x3 x4 m0 hq0
    · refine xj_goto (tgt := 148) F dX9_missing_56 (by decide) ?_
      refine xj_sub (lv' := [(0, .ref (xad G q0)), (1, .int x1), (2, .int x2)]) [0, 1, 2] rfl ?_
      exact jX9_missing_148 F hdep hr4 q0 x1 x2 m0 hq0
set_option maxRecDepth 20000 in
set_option maxHeartbeats 4000000 in
theorem jX9_missing_272 {G : XG} {l : Launch} {d : Nat} {X : XX} (F : xF (xE G d) G X mX9_missing) (hdep : 2 ≤ d) {r156 : Nat → Int32 → Int32 → XM → Option (Int32 × XM)} (hr156 : ∀ (q0 : Nat) (x1 : Int32) (x2 : Int32) (m0 : XM), isa G q0 9 → xJ (xE G d) (xQ xrI G X mX9_missing) G l X mX9_missing 156 [(0, .ref (xad G q0)), (1, .int x1), (2, .int x2)] [] m0 (r156 q0 x1 x2 m0)) : ∀ (q0 : Nat) (x1 : Int32) (x2 : Int32) (m0 : XM), isa G q0 9 → xJ (xE G d) (xQ xrI G X mX9_missing) G l X mX9_missing 272 [(0, .ref (xad G q0)), (1, .int x1), (2, .int x2)] [] m0 (fX9_missing_272 (xln G) r156 q0 x1 x2 m0) := by
  intro q0 x1 x2 m0 hq0
  unfold fX9_missing_272
  refine xj_iinc F 2 1 (fun v1 => [(2, .int v1), (0, .ref (xad G q0)), (1, .int x1)]) dX9_missing_272 rfl (by decide) (by decide) (fun _ => rfl) (fun v1 => ?_)
  refine xj_goto (tgt := 156) F dX9_missing_275 (by decide) ?_
  refine xj_sub (lv' := [(0, .ref (xad G q0)), (1, .int x1), (2, .int v1)]) [1, 2, 0] rfl ?_
  exact hr156 q0 x1 v1 m0 hq0
set_option maxRecDepth 20000 in
set_option maxHeartbeats 4000000 in
theorem jX9_missing_270 {G : XG} {l : Launch} {d : Nat} {X : XX} (F : xF (xE G d) G X mX9_missing) (hdep : 2 ≤ d) {r156 : Nat → Int32 → Int32 → XM → Option (Int32 × XM)} (hr156 : ∀ (q0 : Nat) (x1 : Int32) (x2 : Int32) (m0 : XM), isa G q0 9 → xJ (xE G d) (xQ xrI G X mX9_missing) G l X mX9_missing 156 [(0, .ref (xad G q0)), (1, .int x1), (2, .int x2)] [] m0 (r156 q0 x1 x2 m0)) : ∀ (q0 : Nat) (x2 : Int32) (x3 : Int32) (m0 : XM), isa G q0 9 → xJ (xE G d) (xQ xrI G X mX9_missing) G l X mX9_missing 270 [(0, .ref (xad G q0)), (2, .int x2), (3, .int x3)] [] m0 (fX9_missing_270 (xln G) r156 q0 x2 x3 m0) := by
  intro q0 x2 x3 m0 hq0
  unfold fX9_missing_270
  refine xj_iload_n F 2 dX9_missing_270 rfl ?_
  refine xj_istore_n (lv' := [(1, .int x3), (0, .ref (xad G q0)), (2, .int x2), (3, .int x3)]) F dX9_missing_271 (by decide) rfl ?_
  refine xj_sub (lv' := [(0, .ref (xad G q0)), (1, .int x3), (2, .int x2)]) [1, 0, 2] rfl ?_
  exact jX9_missing_272 F hdep hr156 q0 x3 x2 m0 hq0
set_option maxRecDepth 20000 in
set_option maxHeartbeats 4000000 in
theorem jX9_missing_248 {G : XG} {l : Launch} {d : Nat} {X : XX} (F : xF (xE G d) G X mX9_missing) (hdep : 2 ≤ d) {r156 : Nat → Int32 → Int32 → XM → Option (Int32 × XM)} (hr156 : ∀ (q0 : Nat) (x1 : Int32) (x2 : Int32) (m0 : XM), isa G q0 9 → xJ (xE G d) (xQ xrI G X mX9_missing) G l X mX9_missing 156 [(0, .ref (xad G q0)), (1, .int x1), (2, .int x2)] [] m0 (r156 q0 x1 x2 m0)) : ∀ (q0 : Nat) (x1 : Int32) (x2 : Int32) (x3 : Int32) (s0 : Int32) (m0 : XM), isa G q0 9 → xJ (xE G d) (xQ xrI G X mX9_missing) G l X mX9_missing 248 [(0, .ref (xad G q0)), (1, .int x1), (2, .int x2), (3, .int x3)] [.int s0] m0 (fX9_missing_248 (xln G) r156 q0 x1 x2 x3 s0 m0) := by
  intro q0 x1 x2 x3 s0 m0 hq0
  unfold fX9_missing_248
  refine xj_istore (lv' := [(5, .int s0), (0, .ref (xad G q0)), (1, .int x1), (2, .int x2), (3, .int x3)]) F dX9_missing_248 (by decide) rfl ?_
  refine xj_iload F 0 dX9_missing_250 rfl ?_
  refine xj_iconst F (-1) dX9_missing_252 (by decide) ?_
  refine xj_icmp_eq (tgt := 270) F dX9_missing_253 (by decide) ?_ ?_
  · refine xj_sub (lv' := [(0, .ref (xad G q0)), (2, .int x2), (3, .int x3)]) [1, 3, 4] rfl ?_
    exact jX9_missing_270 F hdep hr156 q0 x2 x3 m0 hq0
  · refine xj_aload_n F 1 dX9_missing_256 rfl ?_
    refine xj_getR F hq0 lgX9_23 dX9_missing_257 (fun u1 hu1 => ?_)
    refine xj_iload F 0 dX9_missing_260 rfl ?_
    refine xj_iconst F 0 dX9_missing_262 (by decide) ?_
    refine xj_callSI (As := [.ref (xad G u1), .int s0, .int 0]) (d' := 0) F lmX9_104 rfl rfl (Nat.le_of_ble_eq_true rfl) (xfit (Nat.le_trans (Nat.le_of_ble_eq_true rfl) hdep)) dX9_missing_263 (fun hT z hz => wX9_ofMember (xnd F) (Nat.le_refl _) hT (a0 := u1) (a1 := s0) (a2 := 0) hu1 z hz) (fun v3 m2 => ?_)
    refine xj_iconst F 1 dX9_missing_266 (by decide) ?_
    refine xj_icmp_eq (tgt := 272) F dX9_missing_267 (by decide) ?_ ?_
    · refine xj_sub (lv' := [(0, .ref (xad G q0)), (1, .int x1), (2, .int x2)]) [1, 2, 3] rfl ?_
      exact jX9_missing_272 F hdep hr156 q0 x1 x2 m2 hq0
    · refine xj_sub (lv' := [(0, .ref (xad G q0)), (2, .int x2), (3, .int x3)]) [1, 3, 4] rfl ?_
      exact jX9_missing_270 F hdep hr156 q0 x2 x3 m2 hq0
set_option maxRecDepth 20000 in
set_option maxHeartbeats 4000000 in
theorem jX9_missing_202 {G : XG} {l : Launch} {d : Nat} {X : XX} (F : xF (xE G d) G X mX9_missing) (hdep : 2 ≤ d) {r156 : Nat → Int32 → Int32 → XM → Option (Int32 × XM)} (hr156 : ∀ (q0 : Nat) (x1 : Int32) (x2 : Int32) (m0 : XM), isa G q0 9 → xJ (xE G d) (xQ xrI G X mX9_missing) G l X mX9_missing 156 [(0, .ref (xad G q0)), (1, .int x1), (2, .int x2)] [] m0 (r156 q0 x1 x2 m0)) : ∀ (q0 : Nat) (x1 : Int32) (x2 : Int32) (x3 : Int32) (m0 : XM), isa G q0 9 → xJ (xE G d) (xQ xrI G X mX9_missing) G l X mX9_missing 202 [(0, .ref (xad G q0)), (1, .int x1), (2, .int x2), (3, .int x3)] [] m0 (fX9_missing_202 (xln G) r156 q0 x1 x2 x3 m0) := by
  intro q0 x1 x2 x3 m0 hq0
  unfold fX9_missing_202
  refine xj_aload_n F 0 dX9_missing_202 rfl ?_
  refine xj_getR F hq0 lgX9_23 dX9_missing_203 (fun u1 hu1 => ?_)
  refine xj_aload_n F 0 dX9_missing_206 rfl ?_
  refine xj_getR F hq0 lgX9_23 dX9_missing_207 (fun u2 hu2 => ?_)
  refine xj_iload_n F 2 dX9_missing_210 rfl ?_
  refine xj_iconst F 0 dX9_missing_211 (by decide) ?_
  refine xj_callSI (As := [.ref (xad G u2), .int x2, .int 0]) (d' := 0) F lmX9_244 rfl rfl (Nat.le_of_ble_eq_true rfl) (xfit (Nat.le_trans (Nat.le_of_ble_eq_true rfl) hdep)) dX9_missing_212 (fun hT z hz => wX9_ofAct (xnd F) (Nat.le_refl _) hT (a0 := u2) (a1 := x2) (a2 := 0) hu2 z hz) (fun v4 m3 => ?_)
  refine xj_callSI (As := [.ref (xad G u1), .int v4]) (d' := 1) F lmX9_247 rfl rfl (Nat.le_of_ble_eq_true rfl) (xfit (Nat.le_trans (Nat.le_of_ble_eq_true rfl) hdep)) dX9_missing_215 (fun hT z hz => wX9_unitBy (xnd F) (Nat.le_refl _) hT (a0 := u1) (a1 := v4) hu1 z hz) (fun v6 m5 => ?_)
  refine xj_istore (lv' := [(4, .int v6), (0, .ref (xad G q0)), (1, .int x1), (2, .int x2), (3, .int x3)]) F dX9_missing_218 (by decide) rfl ?_
  refine xj_iload F 0 dX9_missing_220 rfl ?_
  refine xj_iconst F (-1) dX9_missing_222 (by decide) ?_
  refine xj_icmp_ne (tgt := 230) F dX9_missing_223 (by decide) ?_ ?_
  · refine xj_aload_n F 1 dX9_missing_230 rfl ?_
    refine xj_getR F hq0 lgX9_23 dX9_missing_231 (fun u7 hu7 => ?_)
    refine xj_iload F 0 dX9_missing_234 rfl ?_
    refine xj_aload_n F 1 dX9_missing_236 rfl ?_
    refine xj_getR F hq0 lgX9_23 dX9_missing_237 (fun u8 hu8 => ?_)
    refine xj_iload_n F 3 dX9_missing_240 rfl ?_
    refine xj_iconst F 1 dX9_missing_241 (by decide) ?_
    refine xj_callSI (As := [.ref (xad G u8), .int x2, .int 1]) (d' := 0) F lmX9_244 rfl rfl (Nat.le_of_ble_eq_true rfl) (xfit (Nat.le_trans (Nat.le_of_ble_eq_true rfl) hdep)) dX9_missing_242 (fun hT z hz => wX9_ofAct (xnd F) (Nat.le_refl _) hT (a0 := u8) (a1 := x2) (a2 := 1) hu8 z hz) (fun v10 m9 => ?_)
    refine xj_callSI (As := [.ref (xad G u7), .int v6, .int v10]) (d' := 1) F lmX9_215 rfl rfl (Nat.le_of_ble_eq_true rfl) (xfit (Nat.le_trans (Nat.le_of_ble_eq_true rfl) hdep)) dX9_missing_245 (fun hT z hz => wX9_named (xnd F) (Nat.le_refl _) hT (a0 := u7) (a1 := v6) (a2 := v10) hu7 z hz) (fun v12 m11 => ?_)
    refine xj_sub (lv' := [(0, .ref (xad G q0)), (1, .int x1), (2, .int x2), (3, .int x3)]) [1, 2, 3, 4] rfl ?_
    exact jX9_missing_248 F hdep hr156 q0 x1 x2 x3 v12 m11 hq0
  · refine xj_iconst F (-1) dX9_missing_226 (by decide) ?_
    refine xj_goto (tgt := 248) F dX9_missing_227 (by decide) ?_
    refine xj_sub (lv' := [(0, .ref (xad G q0)), (1, .int x1), (2, .int x2), (3, .int x3)]) [1, 2, 3, 4] rfl ?_
    exact jX9_missing_248 F hdep hr156 q0 x1 x2 x3 (-1) m5 hq0
set_option maxRecDepth 20000 in
set_option maxHeartbeats 4000000 in
theorem jX9_missing_156 {G : XG} {l : Launch} {d : Nat} {X : XX} (F : xF (xE G d) G X mX9_missing) (hdep : 2 ≤ d) : ∀ (n : Nat) (q0 : Nat) (x1 : Int32) (x2 : Int32) (m0 : XM), isa G q0 9 → xJ (xE G d) (xQ xrI G X mX9_missing) G l X mX9_missing 156 [(0, .ref (xad G q0)), (1, .int x1), (2, .int x2)] [] m0 (fX9_missing_156 (xln G) n q0 x1 x2 m0) := by
  intro n
  induction n with
  | zero => intro q0 x1 x2 m0 hq0; exact xj_none
  | succ n hr156 =>
    intro q0 x1 x2 m0 hq0
    unfold fX9_missing_156
    generalize hrg156 : (fun q0 x1 x2 m0 => fX9_missing_156 (xln G) n q0 x1 x2 m0) = r156
    have hr156 : ∀ (q0 : Nat) (x1 : Int32) (x2 : Int32) (m0 : XM), isa G q0 9 → xJ (xE G d) (xQ xrI G X mX9_missing) G l X mX9_missing 156 [(0, .ref (xad G q0)), (1, .int x1), (2, .int x2)] [] m0 (r156 q0 x1 x2 m0) := by
      subst hrg156
      exact hr156
    clear hrg156
    refine xj_eq (xv_eq _ _) ?_
    refine xj_iload_n F 2 dX9_missing_156 rfl ?_
    refine xj_aload_n F 0 dX9_missing_157 rfl ?_
    refine xj_getR F hq0 lgX9_23 dX9_missing_158 (fun u1 hu1 => ?_)
    refine xj_iconst F 2 dX9_missing_161 (by decide) ?_
    refine xj_iald F hu1 dX9_missing_162 (fun v2 => ?_)
    refine xj_icmp_ge (tgt := 278) F dX9_missing_163 (by decide) ?_ ?_
    · refine xj_iload_n F 1 dX9_missing_278 rfl ?_
      exact xj_ret F rfl dX9_missing_279
    · refine xj_aload_n F 0 dX9_missing_166 rfl ?_
      refine xj_getR F hq0 lgX9_23 dX9_missing_167 (fun u3 hu3 => ?_)
      refine xj_iload_n F 2 dX9_missing_170 rfl ?_
      refine xj_iconst F 3 dX9_missing_171 (by decide) ?_
      refine xj_callSI (As := [.ref (xad G u3), .int x2, .int 3]) (d' := 0) F lmX9_244 rfl rfl (Nat.le_of_ble_eq_true rfl) (xfit (Nat.le_trans (Nat.le_of_ble_eq_true rfl) hdep)) dX9_missing_172 (fun hT z hz => wX9_ofAct (xnd F) (Nat.le_refl _) hT (a0 := u3) (a1 := x2) (a2 := 3) hu3 z hz) (fun v5 m4 => ?_)
      refine xj_istore_n (lv' := [(3, .int v5), (0, .ref (xad G q0)), (1, .int x1), (2, .int x2)]) F dX9_missing_175 (by decide) rfl ?_
      refine xj_aload_n F 1 dX9_missing_176 rfl ?_
      refine xj_getR F hq0 lgX9_23 dX9_missing_177 (fun u6 hu6 => ?_)
      refine xj_iload_n F 3 dX9_missing_180 rfl ?_
      refine xj_iconst F 0 dX9_missing_181 (by decide) ?_
      refine xj_callSI (As := [.ref (xad G u6), .int x2, .int 0]) (d' := 0) F lmX9_244 rfl rfl (Nat.le_of_ble_eq_true rfl) (xfit (Nat.le_trans (Nat.le_of_ble_eq_true rfl) hdep)) dX9_missing_182 (fun hT z hz => wX9_ofAct (xnd F) (Nat.le_refl _) hT (a0 := u6) (a1 := x2) (a2 := 0) hu6 z hz) (fun v8 m7 => ?_)
      refine xj_iconst F (-1) dX9_missing_185 (by decide) ?_
      refine xj_icmp_eq (tgt := 272) F dX9_missing_186 (by decide) ?_ ?_
      · refine xj_sub (lv' := [(0, .ref (xad G q0)), (1, .int x1), (2, .int x2)]) [1, 2, 3] rfl ?_
        exact jX9_missing_272 F hdep hr156 q0 x1 x2 m7 hq0
      · refine xj_iload_n F 2 dX9_missing_189 rfl ?_
        refine xj_iconst F (-1) dX9_missing_190 (by decide) ?_
        refine xj_icmp_eq (tgt := 202) F dX9_missing_191 (by decide) ?_ ?_
        · refine xj_sub (lv' := [(0, .ref (xad G q0)), (1, .int x1), (2, .int x2), (3, .int v5)]) [1, 2, 3, 0] rfl ?_
          exact jX9_missing_202 F hdep hr156 q0 x1 x2 v5 m7 hq0
        · refine xj_iload_n F 0 dX9_missing_194 rfl ?_
          refine xj_iload_n F 2 dX9_missing_195 rfl ?_
          refine xj_icmp_le (tgt := 202) F dX9_missing_196 (by decide) ?_ ?_
          · refine xj_sub (lv' := [(0, .ref (xad G q0)), (1, .int x1), (2, .int x2), (3, .int v5)]) [1, 2, 3, 0] rfl ?_
            exact jX9_missing_202 F hdep hr156 q0 x1 x2 v5 m7 hq0
          · refine xj_goto (tgt := 272) F dX9_missing_199 (by decide) ?_
            refine xj_sub (lv' := [(0, .ref (xad G q0)), (1, .int x1), (2, .int x2)]) [1, 2, 3] rfl ?_
            exact jX9_missing_272 F hdep hr156 q0 x1 x2 m7 hq0
set_option maxRecDepth 20000 in
set_option maxHeartbeats 4000000 in
theorem jX9_missing_4 {G : XG} {l : Launch} {d : Nat} {X : XX} (F : xF (xE G d) G X mX9_missing) (hdep : 2 ≤ d) : ∀ (n : Nat) (q0 : Nat) (x1 : Int32) (x2 : Int32) (m0 : XM), isa G q0 9 → xJ (xE G d) (xQ xrI G X mX9_missing) G l X mX9_missing 4 [(0, .ref (xad G q0)), (1, .int x1), (2, .int x2)] [] m0 (fX9_missing_4 (xln G) n q0 x1 x2 m0) := by
  intro n
  induction n with
  | zero => intro q0 x1 x2 m0 hq0; exact xj_none
  | succ n hr4 =>
    intro q0 x1 x2 m0 hq0
    unfold fX9_missing_4
    generalize hrg4 : (fun q0 x1 x2 m0 => fX9_missing_4 (xln G) n q0 x1 x2 m0) = r4
    have hr4 : ∀ (q0 : Nat) (x1 : Int32) (x2 : Int32) (m0 : XM), isa G q0 9 → xJ (xE G d) (xQ xrI G X mX9_missing) G l X mX9_missing 4 [(0, .ref (xad G q0)), (1, .int x1), (2, .int x2)] [] m0 (r4 q0 x1 x2 m0) := by
      subst hrg4
      exact hr4
    clear hrg4
    refine xj_eq (xv_eq _ _) ?_
    refine xj_iload_n F 2 dX9_missing_4 rfl ?_
    refine xj_aload_n F 0 dX9_missing_5 rfl ?_
    refine xj_getR F hq0 lgX9_23 dX9_missing_6 (fun u1 hu1 => ?_)
    refine xj_iconst F 3 dX9_missing_9 (by decide) ?_
    refine xj_iald F hu1 dX9_missing_10 (fun v2 => ?_)
    refine xj_icmp_ge (tgt := 154) F dX9_missing_11 (by decide) ?_ ?_
    · refine xj_iconst F 0 dX9_missing_154 (by decide) ?_
      refine xj_istore_n (lv' := [(2, .int 0), (0, .ref (xad G q0)), (1, .int x1)]) F dX9_missing_155 (by decide) rfl ?_
      refine xj_sub (lv' := [(0, .ref (xad G q0)), (1, .int x1), (2, .int 0)]) [1, 2, 0] rfl ?_
      exact jX9_missing_156 F hdep XF q0 x1 0 m0 hq0
    · refine xj_aload_n F 0 dX9_missing_14 rfl ?_
      refine xj_getR F hq0 lgX9_23 dX9_missing_15 (fun u3 hu3 => ?_)
      refine xj_iload_n F 2 dX9_missing_18 rfl ?_
      refine xj_iconst F 1 dX9_missing_19 (by decide) ?_
      refine xj_callSI (As := [.ref (xad G u3), .int x2, .int 1]) (d' := 0) F lmX9_254 rfl rfl (Nat.le_of_ble_eq_true rfl) (xfit (Nat.le_trans (Nat.le_of_ble_eq_true rfl) hdep)) dX9_missing_20 (fun hT z hz => wX9_ofTerm (xnd F) (Nat.le_refl _) hT (a0 := u3) (a1 := x2) (a2 := 1) hu3 z hz) (fun v5 m4 => ?_)
      refine xj_istore_n (lv' := [(3, .int v5), (0, .ref (xad G q0)), (1, .int x1), (2, .int x2)]) F dX9_missing_23 (by decide) rfl ?_
      refine xj_aload_n F 1 dX9_missing_24 rfl ?_
      refine xj_getR F hq0 lgX9_23 dX9_missing_25 (fun u6 hu6 => ?_)
      refine xj_iload_n F 3 dX9_missing_28 rfl ?_
      refine xj_iconst F 5 dX9_missing_29 (by decide) ?_
      refine xj_callSI (As := [.ref (xad G u6), .int x2, .int 5]) (d' := 0) F lmX9_254 rfl rfl (Nat.le_of_ble_eq_true rfl) (xfit (Nat.le_trans (Nat.le_of_ble_eq_true rfl) hdep)) dX9_missing_30 (fun hT z hz => wX9_ofTerm (xnd F) (Nat.le_refl _) hT (a0 := u6) (a1 := x2) (a2 := 5) hu6 z hz) (fun v8 m7 => ?_)
      refine xj_istore (lv' := [(4, .int v8), (3, .int v5), (0, .ref (xad G q0)), (1, .int x1), (2, .int x2)]) F dX9_missing_33 (by decide) rfl ?_
      refine xj_iload_n F 1 dX9_missing_35 rfl ?_
      refine xj_iconst F 1 dX9_missing_36 (by decide) ?_
      refine xj_icmp_eq (tgt := 45) F dX9_missing_37 (by decide) ?_ ?_
      · refine xj_sub (lv' := [(0, .ref (xad G q0)), (1, .int x1), (2, .int x2), (3, .int v5), (4, .int v8)]) [2, 3, 4, 1, 0] rfl ?_
        exact jX9_missing_45 F hdep hr4 q0 x1 x2 v5 v8 m7 hq0
      · refine xj_iload_n F 1 dX9_missing_40 rfl ?_
        refine xj_iconst F 2 dX9_missing_41 (by decide) ?_
        refine xj_icmp_ne (tgt := 148) F dX9_missing_42 (by decide) ?_ ?_
        · refine xj_sub (lv' := [(0, .ref (xad G q0)), (1, .int x1), (2, .int x2)]) [2, 3, 4] rfl ?_
          exact jX9_missing_148 F hdep hr4 q0 x1 x2 m7 hq0
        · refine xj_sub (lv' := [(0, .ref (xad G q0)), (1, .int x1), (2, .int x2), (3, .int v5), (4, .int v8)]) [2, 3, 4, 1, 0] rfl ?_
          exact jX9_missing_45 F hdep hr4 q0 x1 x2 v5 v8 m7 hq0
set_option maxRecDepth 20000 in
set_option maxHeartbeats 4000000 in
theorem wX9_missing {G : XG} {l : Launch} {d : Nat} (hn : xN G) (hdep : 2 ≤ d) {m0 : XM} (hT : xT G m0) {a0 : Nat} (ha0 : isa G a0 9) : ∀ z, fX9_missing (xln G) a0 m0 = some z → xMet G l mX9_missing d [.ref (xad G a0)] m0 (xrI z) := by
  refine xMet_of (by decide +kernel) hn hT (Nat.le_of_ble_eq_true rfl) (fun X F => ?_)
  refine xj_sub (lv' := [(0, .ref (xad G a0))]) [0] rfl ?_
  unfold fX9_missing
  refine xj_iconst F (-1) dX9_missing_0 (by decide) ?_
  refine xj_istore_n (lv' := [(1, .int (-1)), (0, .ref (xad G a0))]) F dX9_missing_1 (by decide) rfl ?_
  refine xj_iconst F 0 dX9_missing_2 (by decide) ?_
  refine xj_istore_n (lv' := [(2, .int 0), (1, .int (-1)), (0, .ref (xad G a0))]) F dX9_missing_3 (by decide) rfl ?_
  refine xj_sub (lv' := [(0, .ref (xad G a0)), (1, .int (-1)), (2, .int 0)]) [2, 1, 0] rfl ?_
  exact jX9_missing_4 F hdep XF a0 (-1) 0 m0 ha0
set_option maxRecDepth 20000 in
set_option maxHeartbeats 4000000 in
theorem jX9_binds_97 {G : XG} {l : Launch} {d : Nat} {X : XX} (F : xF (xE G d) G X mX9_binds) (hdep : 2 ≤ d) {r2 : Nat → Int32 → XM → Option XM} (hr2 : ∀ (q0 : Nat) (x1 : Int32) (m0 : XM), isa G q0 9 → xJ (xE G d) (xQ xrV G X mX9_binds) G l X mX9_binds 2 [(0, .ref (xad G q0)), (1, .int x1)] [] m0 (r2 q0 x1 m0)) : ∀ (q0 : Nat) (x1 : Int32) (m0 : XM), isa G q0 9 → xJ (xE G d) (xQ xrV G X mX9_binds) G l X mX9_binds 97 [(0, .ref (xad G q0)), (1, .int x1)] [] m0 (fX9_binds_97 (xln G) r2 q0 x1 m0) := by
  intro q0 x1 m0 hq0
  unfold fX9_binds_97
  refine xj_iinc F 1 1 (fun v1 => [(1, .int v1), (0, .ref (xad G q0))]) dX9_binds_97 rfl (by decide) (by decide) (fun _ => rfl) (fun v1 => ?_)
  refine xj_goto (tgt := 2) F dX9_binds_100 (by decide) ?_
  refine xj_sub (lv' := [(0, .ref (xad G q0)), (1, .int v1)]) [1, 0] rfl ?_
  exact hr2 q0 v1 m0 hq0
set_option maxRecDepth 20000 in
set_option maxHeartbeats 4000000 in
theorem jX9_binds_43 {G : XG} {l : Launch} {d : Nat} {X : XX} (F : xF (xE G d) G X mX9_binds) (hdep : 2 ≤ d) {r2 : Nat → Int32 → XM → Option XM} (hr2 : ∀ (q0 : Nat) (x1 : Int32) (m0 : XM), isa G q0 9 → xJ (xE G d) (xQ xrV G X mX9_binds) G l X mX9_binds 2 [(0, .ref (xad G q0)), (1, .int x1)] [] m0 (r2 q0 x1 m0)) : ∀ (q0 : Nat) (x1 : Int32) (x2 : Int32) (m0 : XM), isa G q0 9 → xJ (xE G d) (xQ xrV G X mX9_binds) G l X mX9_binds 43 [(0, .ref (xad G q0)), (1, .int x1), (2, .int x2)] [] m0 (fX9_binds_43 (xln G) r2 q0 x1 x2 m0) := by
  intro q0 x1 x2 m0 hq0
  unfold fX9_binds_43
  refine xj_aload_n F 0 dX9_binds_43 rfl ?_
  refine xj_getR F hq0 lgX9_23 dX9_binds_44 (fun u1 hu1 => ?_)
  refine xj_iload_n F 2 dX9_binds_47 rfl ?_
  refine xj_iconst F 2 dX9_binds_48 (by decide) ?_
  refine xj_iadd F dX9_binds_49 (fun v2 => ?_)
  refine xj_aload_n F 0 dX9_binds_50 rfl ?_
  refine xj_getR F hq0 lgX9_23 dX9_binds_51 (fun u3 hu3 => ?_)
  refine xj_aload_n F 0 dX9_binds_54 rfl ?_
  refine xj_getR F hq0 lgX9_23 dX9_binds_55 (fun u4 hu4 => ?_)
  refine xj_iload_n F 2 dX9_binds_58 rfl ?_
  refine xj_iconst F 2 dX9_binds_59 (by decide) ?_
  refine xj_iadd F dX9_binds_60 (fun v5 => ?_)
  refine xj_iald F hu4 dX9_binds_61 (fun v6 => ?_)
  refine xj_callSI (As := [.ref (xad G u3), .int v6]) (d' := 1) F lmX9_247 rfl rfl (Nat.le_of_ble_eq_true rfl) (xfit (Nat.le_trans (Nat.le_of_ble_eq_true rfl) hdep)) dX9_binds_62 (fun hT z hz => wX9_unitBy (xnd F) (Nat.le_refl _) hT (a0 := u3) (a1 := v6) hu3 z hz) (fun v8 m7 => ?_)
  refine xj_iast F hu1 dX9_binds_65 (fun m9 => ?_)
  refine xj_aload_n F 0 dX9_binds_66 rfl ?_
  refine xj_getR F hq0 lgX9_23 dX9_binds_67 (fun u10 hu10 => ?_)
  refine xj_iload_n F 2 dX9_binds_70 rfl ?_
  refine xj_iconst F 3 dX9_binds_71 (by decide) ?_
  refine xj_iadd F dX9_binds_72 (fun v11 => ?_)
  refine xj_aload_n F 0 dX9_binds_73 rfl ?_
  refine xj_getR F hq0 lgX9_23 dX9_binds_74 (fun u12 hu12 => ?_)
  refine xj_aload_n F 0 dX9_binds_77 rfl ?_
  refine xj_getR F hq0 lgX9_23 dX9_binds_78 (fun u13 hu13 => ?_)
  refine xj_iload_n F 2 dX9_binds_81 rfl ?_
  refine xj_iconst F 2 dX9_binds_82 (by decide) ?_
  refine xj_iadd F dX9_binds_83 (fun v14 => ?_)
  refine xj_iald F hu13 dX9_binds_84 (fun v15 => ?_)
  refine xj_aload_n F 0 dX9_binds_85 rfl ?_
  refine xj_getR F hq0 lgX9_23 dX9_binds_86 (fun u16 hu16 => ?_)
  refine xj_iload_n F 2 dX9_binds_89 rfl ?_
  refine xj_iconst F 3 dX9_binds_90 (by decide) ?_
  refine xj_iadd F dX9_binds_91 (fun v17 => ?_)
  refine xj_iald F hu16 dX9_binds_92 (fun v18 => ?_)
  refine xj_callSI (As := [.ref (xad G u12), .int v15, .int v18]) (d' := 1) F lmX9_215 rfl rfl (Nat.le_of_ble_eq_true rfl) (xfit (Nat.le_trans (Nat.le_of_ble_eq_true rfl) hdep)) dX9_binds_93 (fun hT z hz => wX9_named (xnd F) (Nat.le_refl _) hT (a0 := u12) (a1 := v15) (a2 := v18) hu12 z hz) (fun v20 m19 => ?_)
  refine xj_iast F hu10 dX9_binds_96 (fun m21 => ?_)
  refine xj_sub (lv' := [(0, .ref (xad G q0)), (1, .int x1)]) [0, 1] rfl ?_
  exact jX9_binds_97 F hdep hr2 q0 x1 m21 hq0
set_option maxRecDepth 20000 in
set_option maxHeartbeats 4000000 in
theorem jX9_binds_184 {G : XG} {l : Launch} {d : Nat} {X : XX} (F : xF (xE G d) G X mX9_binds) (hdep : 2 ≤ d) {r105 : Nat → Int32 → XM → Option XM} (hr105 : ∀ (q0 : Nat) (x1 : Int32) (m0 : XM), isa G q0 9 → xJ (xE G d) (xQ xrV G X mX9_binds) G l X mX9_binds 105 [(0, .ref (xad G q0)), (1, .int x1)] [] m0 (r105 q0 x1 m0)) : ∀ (q0 : Nat) (x1 : Int32) (m0 : XM), isa G q0 9 → xJ (xE G d) (xQ xrV G X mX9_binds) G l X mX9_binds 184 [(0, .ref (xad G q0)), (1, .int x1)] [] m0 (fX9_binds_184 (xln G) r105 q0 x1 m0) := by
  intro q0 x1 m0 hq0
  unfold fX9_binds_184
  refine xj_iinc F 1 1 (fun v1 => [(1, .int v1), (0, .ref (xad G q0))]) dX9_binds_184 rfl (by decide) (by decide) (fun _ => rfl) (fun v1 => ?_)
  refine xj_goto (tgt := 105) F dX9_binds_187 (by decide) ?_
  refine xj_sub (lv' := [(0, .ref (xad G q0)), (1, .int v1)]) [1, 0] rfl ?_
  exact hr105 q0 v1 m0 hq0
set_option maxRecDepth 20000 in
set_option maxHeartbeats 4000000 in
theorem jX9_binds_105 {G : XG} {l : Launch} {d : Nat} {X : XX} (F : xF (xE G d) G X mX9_binds) (hdep : 2 ≤ d) : ∀ (n : Nat) (q0 : Nat) (x1 : Int32) (m0 : XM), isa G q0 9 → xJ (xE G d) (xQ xrV G X mX9_binds) G l X mX9_binds 105 [(0, .ref (xad G q0)), (1, .int x1)] [] m0 (fX9_binds_105 (xln G) n q0 x1 m0) := by
  intro n
  induction n with
  | zero => intro q0 x1 m0 hq0; exact xj_none
  | succ n hr105 =>
    intro q0 x1 m0 hq0
    unfold fX9_binds_105
    generalize hrg105 : (fun q0 x1 m0 => fX9_binds_105 (xln G) n q0 x1 m0) = r105
    have hr105 : ∀ (q0 : Nat) (x1 : Int32) (m0 : XM), isa G q0 9 → xJ (xE G d) (xQ xrV G X mX9_binds) G l X mX9_binds 105 [(0, .ref (xad G q0)), (1, .int x1)] [] m0 (r105 q0 x1 m0) := by
      subst hrg105
      exact hr105
    clear hrg105
    refine xj_eq (xv_eq _ _) ?_
    refine xj_iload_n F 1 dX9_binds_105 rfl ?_
    refine xj_aload_n F 0 dX9_binds_106 rfl ?_
    refine xj_getR F hq0 lgX9_23 dX9_binds_107 (fun u1 hu1 => ?_)
    refine xj_iconst F 2 dX9_binds_110 (by decide) ?_
    refine xj_iald F hu1 dX9_binds_111 (fun v2 => ?_)
    refine xj_icmp_ge (tgt := 190) F dX9_binds_112 (by decide) ?_ ?_
    · exact xj_retV F rfl dX9_binds_190
    · refine xj_sipush F 530 dX9_binds_115 (by decide) ?_
      refine xj_iconst F 4 dX9_binds_118 (by decide) ?_
      refine xj_iload_n F 1 dX9_binds_119 rfl ?_
      refine xj_imul F dX9_binds_120 (fun v3 => ?_)
      refine xj_iadd F dX9_binds_121 (fun v4 => ?_)
      refine xj_istore_n (lv' := [(2, .int v4), (0, .ref (xad G q0)), (1, .int x1)]) F dX9_binds_122 (by decide) rfl ?_
      refine xj_aload_n F 1 dX9_binds_123 rfl ?_
      refine xj_getR F hq0 lgX9_23 dX9_binds_124 (fun u5 hu5 => ?_)
      refine xj_iload_n F 0 dX9_binds_127 rfl ?_
      refine xj_iald F hu5 dX9_binds_128 (fun v6 => ?_)
      refine xj_iconst F (-1) dX9_binds_129 (by decide) ?_
      refine xj_icmp_ne (tgt := 136) F dX9_binds_130 (by decide) ?_ ?_
      · refine xj_aload_n F 1 dX9_binds_136 rfl ?_
        refine xj_getR F hq0 lgX9_23 dX9_binds_137 (fun u7 hu7 => ?_)
        refine xj_iload_n F 0 dX9_binds_140 rfl ?_
        refine xj_aload_n F 1 dX9_binds_141 rfl ?_
        refine xj_getR F hq0 lgX9_23 dX9_binds_142 (fun u8 hu8 => ?_)
        refine xj_aload_n F 1 dX9_binds_145 rfl ?_
        refine xj_getR F hq0 lgX9_23 dX9_binds_146 (fun u9 hu9 => ?_)
        refine xj_iload_n F 0 dX9_binds_149 rfl ?_
        refine xj_iald F hu9 dX9_binds_150 (fun v10 => ?_)
        refine xj_callSI (As := [.ref (xad G u8), .int v10]) (d' := 1) F lmX9_247 rfl rfl (Nat.le_of_ble_eq_true rfl) (xfit (Nat.le_trans (Nat.le_of_ble_eq_true rfl) hdep)) dX9_binds_151 (fun hT z hz => wX9_unitBy (xnd F) (Nat.le_refl _) hT (a0 := u8) (a1 := v10) hu8 z hz) (fun v12 m11 => ?_)
        refine xj_iast F hu7 dX9_binds_154 (fun m13 => ?_)
        refine xj_aload_n F 1 dX9_binds_155 rfl ?_
        refine xj_getR F hq0 lgX9_23 dX9_binds_156 (fun u14 hu14 => ?_)
        refine xj_iload_n F 0 dX9_binds_159 rfl ?_
        refine xj_iconst F 1 dX9_binds_160 (by decide) ?_
        refine xj_iadd F dX9_binds_161 (fun v15 => ?_)
        refine xj_aload_n F 1 dX9_binds_162 rfl ?_
        refine xj_getR F hq0 lgX9_23 dX9_binds_163 (fun u16 hu16 => ?_)
        refine xj_aload_n F 1 dX9_binds_166 rfl ?_
        refine xj_getR F hq0 lgX9_23 dX9_binds_167 (fun u17 hu17 => ?_)
        refine xj_iload_n F 0 dX9_binds_170 rfl ?_
        refine xj_iald F hu17 dX9_binds_171 (fun v18 => ?_)
        refine xj_aload_n F 1 dX9_binds_172 rfl ?_
        refine xj_getR F hq0 lgX9_23 dX9_binds_173 (fun u19 hu19 => ?_)
        refine xj_iload_n F 0 dX9_binds_176 rfl ?_
        refine xj_iconst F 1 dX9_binds_177 (by decide) ?_
        refine xj_iadd F dX9_binds_178 (fun v20 => ?_)
        refine xj_iald F hu19 dX9_binds_179 (fun v21 => ?_)
        refine xj_callSI (As := [.ref (xad G u16), .int v18, .int v21]) (d' := 1) F lmX9_215 rfl rfl (Nat.le_of_ble_eq_true rfl) (xfit (Nat.le_trans (Nat.le_of_ble_eq_true rfl) hdep)) dX9_binds_180 (fun hT z hz => wX9_named (xnd F) (Nat.le_refl _) hT (a0 := u16) (a1 := v18) (a2 := v21) hu16 z hz) (fun v23 m22 => ?_)
        refine xj_iast F hu14 dX9_binds_183 (fun m24 => ?_)
        refine xj_sub (lv' := [(0, .ref (xad G q0)), (1, .int x1)]) [1, 2] rfl ?_
        exact jX9_binds_184 F hdep hr105 q0 x1 m24 hq0
      · refine xj_goto (tgt := 184) F dX9_binds_133 (by decide) ?_
        refine xj_sub (lv' := [(0, .ref (xad G q0)), (1, .int x1)]) [1, 2] rfl ?_
        exact jX9_binds_184 F hdep hr105 q0 x1 m0 hq0
set_option maxRecDepth 20000 in
set_option maxHeartbeats 4000000 in
theorem jX9_binds_2 {G : XG} {l : Launch} {d : Nat} {X : XX} (F : xF (xE G d) G X mX9_binds) (hdep : 2 ≤ d) : ∀ (n : Nat) (q0 : Nat) (x1 : Int32) (m0 : XM), isa G q0 9 → xJ (xE G d) (xQ xrV G X mX9_binds) G l X mX9_binds 2 [(0, .ref (xad G q0)), (1, .int x1)] [] m0 (fX9_binds_2 (xln G) n q0 x1 m0) := by
  intro n
  induction n with
  | zero => intro q0 x1 m0 hq0; exact xj_none
  | succ n hr2 =>
    intro q0 x1 m0 hq0
    unfold fX9_binds_2
    generalize hrg2 : (fun q0 x1 m0 => fX9_binds_2 (xln G) n q0 x1 m0) = r2
    have hr2 : ∀ (q0 : Nat) (x1 : Int32) (m0 : XM), isa G q0 9 → xJ (xE G d) (xQ xrV G X mX9_binds) G l X mX9_binds 2 [(0, .ref (xad G q0)), (1, .int x1)] [] m0 (r2 q0 x1 m0) := by
      subst hrg2
      exact hr2
    clear hrg2
    refine xj_eq (xv_eq _ _) ?_
    refine xj_iload_n F 1 dX9_binds_2 rfl ?_
    refine xj_aload_n F 0 dX9_binds_3 rfl ?_
    refine xj_getR F hq0 lgX9_23 dX9_binds_4 (fun u1 hu1 => ?_)
    refine xj_iconst F 3 dX9_binds_7 (by decide) ?_
    refine xj_iald F hu1 dX9_binds_8 (fun v2 => ?_)
    refine xj_icmp_ge (tgt := 103) F dX9_binds_9 (by decide) ?_ ?_
    · refine xj_iconst F 0 dX9_binds_103 (by decide) ?_
      refine xj_istore_n (lv' := [(1, .int 0), (0, .ref (xad G q0))]) F dX9_binds_104 (by decide) rfl ?_
      refine xj_sub (lv' := [(0, .ref (xad G q0)), (1, .int 0)]) [1, 0] rfl ?_
      exact jX9_binds_105 F hdep XF q0 0 m0 hq0
    · refine xj_sipush F 1410 dX9_binds_12 (by decide) ?_
      refine xj_bipush F 6 dX9_binds_15 (by decide) ?_
      refine xj_iload_n F 1 dX9_binds_17 rfl ?_
      refine xj_imul F dX9_binds_18 (fun v3 => ?_)
      refine xj_iadd F dX9_binds_19 (fun v4 => ?_)
      refine xj_istore_n (lv' := [(2, .int v4), (0, .ref (xad G q0)), (1, .int x1)]) F dX9_binds_20 (by decide) rfl ?_
      refine xj_aload_n F 1 dX9_binds_21 rfl ?_
      refine xj_getR F hq0 lgX9_23 dX9_binds_22 (fun u5 hu5 => ?_)
      refine xj_iload_n F 0 dX9_binds_25 rfl ?_
      refine xj_iconst F 1 dX9_binds_26 (by decide) ?_
      refine xj_iadd F dX9_binds_27 (fun v6 => ?_)
      refine xj_iald F hu5 dX9_binds_28 (fun v7 => ?_)
      refine xj_istore_n (lv' := [(3, .int v7), (2, .int v4), (0, .ref (xad G q0)), (1, .int x1)]) F dX9_binds_29 (by decide) rfl ?_
      refine xj_iload_n F 0 dX9_binds_30 rfl ?_
      refine xj_iconst F 1 dX9_binds_31 (by decide) ?_
      refine xj_icmp_eq (tgt := 43) F dX9_binds_32 (by decide) ?_ ?_
      · refine xj_sub (lv' := [(0, .ref (xad G q0)), (1, .int x1), (2, .int v4)]) [2, 3, 1] rfl ?_
        exact jX9_binds_43 F hdep hr2 q0 x1 v4 m0 hq0
      · refine xj_iload_n F 0 dX9_binds_35 rfl ?_
        refine xj_iconst F 2 dX9_binds_36 (by decide) ?_
        refine xj_icmp_eq (tgt := 43) F dX9_binds_37 (by decide) ?_ ?_
        · refine xj_sub (lv' := [(0, .ref (xad G q0)), (1, .int x1), (2, .int v4)]) [2, 3, 1] rfl ?_
          exact jX9_binds_43 F hdep hr2 q0 x1 v4 m0 hq0
        · refine xj_goto (tgt := 97) F dX9_binds_40 (by decide) ?_
          refine xj_sub (lv' := [(0, .ref (xad G q0)), (1, .int x1)]) [2, 3] rfl ?_
          exact jX9_binds_97 F hdep hr2 q0 x1 m0 hq0
set_option maxRecDepth 20000 in
set_option maxHeartbeats 4000000 in
theorem wX9_binds {G : XG} {l : Launch} {d : Nat} (hn : xN G) (hdep : 2 ≤ d) {m0 : XM} (hT : xT G m0) {a0 : Nat} (ha0 : isa G a0 9) : ∀ z, fX9_binds (xln G) a0 m0 = some z → xMet G l mX9_binds d [.ref (xad G a0)] m0 (xrV z) := by
  refine xMet_of (by decide +kernel) hn hT (Nat.le_of_ble_eq_true rfl) (fun X F => ?_)
  refine xj_sub (lv' := [(0, .ref (xad G a0))]) [0] rfl ?_
  unfold fX9_binds
  refine xj_iconst F 0 dX9_binds_0 (by decide) ?_
  refine xj_istore_n (lv' := [(1, .int 0), (0, .ref (xad G a0))]) F dX9_binds_1 (by decide) rfl ?_
  refine xj_sub (lv' := [(0, .ref (xad G a0)), (1, .int 0)]) [1, 0] rfl ?_
  exact jX9_binds_2 F hdep XF a0 0 m0 ha0
set_option maxRecDepth 20000 in
set_option maxHeartbeats 4000000 in
theorem jX9_text_227 {G : XG} {l : Launch} {d : Nat} {X : XX} (F : xF (xE G d) G X mX9_text) (hdep : 51 ≤ d) : ∀ (n : Nat) (q0 : Nat) (x3 : Int32) (m0 : XM), isa G q0 9 → xJ (xE G d) (xQ xrI G X mX9_text) G l X mX9_text 227 [(0, .ref (xad G q0)), (3, .int x3)] [] m0 (fX9_text_227 (xln G) n q0 x3 m0) := by
  intro n
  induction n with
  | zero => intro q0 x3 m0 hq0; exact xj_none
  | succ n hr227 =>
    intro q0 x3 m0 hq0
    unfold fX9_text_227
    generalize hrg227 : (fun q0 x3 m0 => fX9_text_227 (xln G) n q0 x3 m0) = r227
    have hr227 : ∀ (q0 : Nat) (x3 : Int32) (m0 : XM), isa G q0 9 → xJ (xE G d) (xQ xrI G X mX9_text) G l X mX9_text 227 [(0, .ref (xad G q0)), (3, .int x3)] [] m0 (r227 q0 x3 m0) := by
      subst hrg227
      exact hr227
    clear hrg227
    refine xj_eq (xv_eq _ _) ?_
    refine xj_iload_n F 1 dX9_text_227 rfl ?_
    refine xj_bipush F 84 dX9_text_228 (by decide) ?_
    refine xj_icmp_ge (tgt := 246) F dX9_text_230 (by decide) ?_ ?_
    · refine xj_aload_n F 0 dX9_text_246 rfl ?_
      refine xj_iconst F 0 dX9_text_247 (by decide) ?_
      refine xj_put F hq0 lpX9_276 dX9_text_248 (fun m1 => ?_)
      refine xj_aload_n F 0 dX9_text_251 rfl ?_
      refine xj_iconst F 0 dX9_text_252 (by decide) ?_
      refine xj_putZ F hq0 lpX9_279 rfl rfl dX9_text_253 (fun m2 => ?_)
      refine xj_aload_n F 0 dX9_text_256 rfl ?_
      refine xj_getR F hq0 lgX9_20 dX9_text_257 (fun u3 hu3 => ?_)
      refine xj_iconst F 0 dX9_text_260 (by decide) ?_
      refine xj_iald F hu3 dX9_text_261 (fun v4 => ?_)
      exact xj_ret F rfl dX9_text_262
    · refine xj_aload_n F 0 dX9_text_233 rfl ?_
      refine xj_getR F hq0 lgX9_26 dX9_text_234 (fun u5 hu5 => ?_)
      refine xj_iload_n F 1 dX9_text_237 rfl ?_
      refine xj_iconst F 0 dX9_text_238 (by decide) ?_
      refine xj_zast F hu5 dX9_text_239 (fun m6 => ?_)
      refine xj_iinc F 1 1 (fun v7 => [(3, .int v7), (0, .ref (xad G q0))]) dX9_text_240 rfl (by decide) (by decide) (fun _ => rfl) (fun v7 => ?_)
      refine xj_goto (tgt := 227) F dX9_text_243 (by decide) ?_
      refine xj_sub (lv' := [(0, .ref (xad G q0)), (3, .int v7)]) [1, 0] rfl ?_
      exact hr227 q0 v7 m6 hq0
set_option maxRecDepth 20000 in
set_option maxHeartbeats 4000000 in
theorem jX9_text_200 {G : XG} {l : Launch} {d : Nat} {X : XX} (F : xF (xE G d) G X mX9_text) (hdep : 51 ≤ d) : ∀ (n : Nat) (q0 : Nat) (x3 : Int32) (m0 : XM), isa G q0 9 → xJ (xE G d) (xQ xrI G X mX9_text) G l X mX9_text 200 [(0, .ref (xad G q0)), (3, .int x3)] [] m0 (fX9_text_200 (xln G) n q0 x3 m0) := by
  intro n
  induction n with
  | zero => intro q0 x3 m0 hq0; exact xj_none
  | succ n hr200 =>
    intro q0 x3 m0 hq0
    unfold fX9_text_200
    generalize hrg200 : (fun q0 x3 m0 => fX9_text_200 (xln G) n q0 x3 m0) = r200
    have hr200 : ∀ (q0 : Nat) (x3 : Int32) (m0 : XM), isa G q0 9 → xJ (xE G d) (xQ xrI G X mX9_text) G l X mX9_text 200 [(0, .ref (xad G q0)), (3, .int x3)] [] m0 (r200 q0 x3 m0) := by
      subst hrg200
      exact hr200
    clear hrg200
    refine xj_eq (xv_eq _ _) ?_
    refine xj_iload_n F 1 dX9_text_200 rfl ?_
    refine xj_sipush F 3820 dX9_text_201 (by decide) ?_
    refine xj_icmp_ge (tgt := 225) F dX9_text_204 (by decide) ?_ ?_
    · refine xj_iconst F 0 dX9_text_225 (by decide) ?_
      refine xj_istore_n (lv' := [(3, .int 0), (0, .ref (xad G q0))]) F dX9_text_226 (by decide) rfl ?_
      refine xj_sub (lv' := [(0, .ref (xad G q0)), (3, .int 0)]) [1, 0] rfl ?_
      exact jX9_text_227 F hdep XF q0 0 m0 hq0
    · refine xj_aload_n F 0 dX9_text_207 rfl ?_
      refine xj_getR F hq0 lgX9_20 dX9_text_208 (fun u1 hu1 => ?_)
      refine xj_iload_n F 1 dX9_text_211 rfl ?_
      refine xj_aload_n F 0 dX9_text_212 rfl ?_
      refine xj_getR F hq0 lgX9_23 dX9_text_213 (fun u2 hu2 => ?_)
      refine xj_iload_n F 1 dX9_text_216 rfl ?_
      refine xj_iald F hu2 dX9_text_217 (fun v3 => ?_)
      refine xj_iast F hu1 dX9_text_218 (fun m4 => ?_)
      refine xj_iinc F 1 1 (fun v5 => [(3, .int v5), (0, .ref (xad G q0))]) dX9_text_219 rfl (by decide) (by decide) (fun _ => rfl) (fun v5 => ?_)
      refine xj_goto (tgt := 200) F dX9_text_222 (by decide) ?_
      refine xj_sub (lv' := [(0, .ref (xad G q0)), (3, .int v5)]) [1, 0] rfl ?_
      exact hr200 q0 v5 m4 hq0
set_option maxRecDepth 20000 in
set_option maxHeartbeats 4000000 in
theorem jX9_text_171 {G : XG} {l : Launch} {d : Nat} {X : XX} (F : xF (xE G d) G X mX9_text) (hdep : 51 ≤ d) : ∀ (q0 : Nat) (m0 : XM), isa G q0 9 → xJ (xE G d) (xQ xrI G X mX9_text) G l X mX9_text 171 [(0, .ref (xad G q0))] [] m0 (fX9_text_171 (xln G) q0 m0) := by
  intro q0 m0 hq0
  unfold fX9_text_171
  refine xj_aload_n F 0 dX9_text_171 rfl ?_
  refine xj_aload_n F 0 dX9_text_172 rfl ?_
  refine xj_get F hq0 lgX9_120 dX9_text_173 (fun v1 => ?_)
  refine xj_put F hq0 lpX9_13 dX9_text_176 (fun m2 => ?_)
  refine xj_aload_n F 0 dX9_text_179 rfl ?_
  refine xj_callVI (b := q0) (As := []) (d' := 0) F hq0 lmX9_140 rfl rfl (Nat.le_of_ble_eq_true rfl) (xfit (Nat.le_trans (Nat.le_of_ble_eq_true rfl) hdep)) dX9_text_180 (fun hT z hz => wX9_fine (xnd F) (Nat.le_refl _) hT (a0 := q0) hq0 z hz) (fun v4 m3 => ?_)
  refine xj_if_ne (tgt := 194) F dX9_text_183 (by decide) ?_ ?_
  · refine xj_aload_n F 0 dX9_text_194 rfl ?_
    refine xj_callVV (b := q0) (As := []) (d' := 2) F hq0 lmX9_273 rfl rfl (Nat.le_of_ble_eq_true rfl) (xfit (Nat.le_trans (Nat.le_of_ble_eq_true rfl) hdep)) dX9_text_195 (fun hT z hz => wX9_binds (xnd F) (Nat.le_refl _) hT (a0 := q0) hq0 z hz) (fun m5 => ?_)
    refine xj_iconst F 0 dX9_text_198 (by decide) ?_
    refine xj_istore_n (lv' := [(3, .int 0), (0, .ref (xad G q0))]) F dX9_text_199 (by decide) rfl ?_
    refine xj_sub (lv' := [(0, .ref (xad G q0)), (3, .int 0)]) [1, 0] rfl ?_
    exact jX9_text_200 F hdep XF q0 0 m5 hq0
  · refine xj_aload_n F 0 dX9_text_186 rfl ?_
    refine xj_get F hq0 lgX9_117 dX9_text_187 (fun v6 => ?_)
    refine xj_bipush F 10 dX9_text_190 (by decide) ?_
    refine xj_isub F dX9_text_192 (fun v7 => ?_)
    exact xj_ret F rfl dX9_text_193
set_option maxRecDepth 20000 in
set_option maxHeartbeats 4000000 in
theorem jX9_text_158 {G : XG} {l : Launch} {d : Nat} {X : XX} (F : xF (xE G d) G X mX9_text) (hdep : 51 ≤ d) : ∀ (q0 : Nat) (s0 : Int32) (m0 : XM), isa G q0 9 → xJ (xE G d) (xQ xrI G X mX9_text) G l X mX9_text 158 [(0, .ref (xad G q0))] [.int s0] m0 (fX9_text_158 (xln G) q0 s0 m0) := by
  intro q0 s0 m0 hq0
  unfold fX9_text_158
  refine xj_istore_n (lv' := [(2, .int s0), (0, .ref (xad G q0))]) F dX9_text_158 (by decide) rfl ?_
  refine xj_iload_n F 0 dX9_text_159 rfl ?_
  refine xj_iconst F (-1) dX9_text_160 (by decide) ?_
  refine xj_icmp_eq (tgt := 171) F dX9_text_161 (by decide) ?_ ?_
  · refine xj_sub (lv' := [(0, .ref (xad G q0))]) [1] rfl ?_
    exact jX9_text_171 F hdep q0 m0 hq0
  · refine xj_aload_n F 1 dX9_text_164 rfl ?_
    refine xj_iconst F 5 dX9_text_165 (by decide) ?_
    refine xj_iload_n F 0 dX9_text_166 rfl ?_
    refine xj_callVI (b := q0) (As := [.int 5, .int s0]) (d' := 0) F hq0 lmX9_151 rfl rfl (Nat.le_of_ble_eq_true rfl) (xfit (Nat.le_trans (Nat.le_of_ble_eq_true rfl) hdep)) dX9_text_167 (fun hT z hz => wX9_wrong (xnd F) (Nat.le_refl _) hT (a0 := q0) (a1 := 5) (a2 := s0) hq0 z hz) (fun v2 m1 => ?_)
    refine xj_pop F dX9_text_170 rfl ?_
    refine xj_sub (lv' := [(0, .ref (xad G q0))]) [1] rfl ?_
    exact jX9_text_171 F hdep q0 m1 hq0
set_option maxRecDepth 20000 in
set_option maxHeartbeats 4000000 in
theorem jX9_text_143 {G : XG} {l : Launch} {d : Nat} {X : XX} (F : xF (xE G d) G X mX9_text) (hdep : 51 ≤ d) : ∀ (q0 : Nat) (m0 : XM), isa G q0 9 → xJ (xE G d) (xQ xrI G X mX9_text) G l X mX9_text 143 [(0, .ref (xad G q0))] [] m0 (fX9_text_143 (xln G) q0 m0) := by
  intro q0 m0 hq0
  unfold fX9_text_143
  refine xj_aload_n F 0 dX9_text_143 rfl ?_
  refine xj_callVI (b := q0) (As := []) (d' := 0) F hq0 lmX9_140 rfl rfl (Nat.le_of_ble_eq_true rfl) (xfit (Nat.le_trans (Nat.le_of_ble_eq_true rfl) hdep)) dX9_text_144 (fun hT z hz => wX9_fine (xnd F) (Nat.le_refl _) hT (a0 := q0) hq0 z hz) (fun v2 m1 => ?_)
  refine xj_if_eq (tgt := 157) F dX9_text_147 (by decide) ?_ ?_
  · refine xj_iconst F (-1) dX9_text_157 (by decide) ?_
    exact jX9_text_158 F hdep q0 (-1) m1 hq0
  · refine xj_aload_n F 0 dX9_text_150 rfl ?_
    refine xj_callVI (b := q0) (As := []) (d' := 2) F hq0 lmX9_270 rfl rfl (Nat.le_of_ble_eq_true rfl) (xfit (Nat.le_trans (Nat.le_of_ble_eq_true rfl) hdep)) dX9_text_151 (fun hT z hz => wX9_missing (xnd F) (Nat.le_refl _) hT (a0 := q0) hq0 z hz) (fun v4 m3 => ?_)
    refine xj_goto (tgt := 158) F dX9_text_154 (by decide) ?_
    exact jX9_text_158 F hdep q0 v4 m3 hq0
set_option maxRecDepth 20000 in
set_option maxHeartbeats 4000000 in
theorem jX9_text_118 {G : XG} {l : Launch} {d : Nat} {X : XX} (F : xF (xE G d) G X mX9_text) (hdep : 51 ≤ d) : ∀ (q0 : Nat) (m0 : XM), isa G q0 9 → xJ (xE G d) (xQ xrI G X mX9_text) G l X mX9_text 118 [(0, .ref (xad G q0))] [] m0 (fX9_text_118 (xln G) q0 m0) := by
  intro q0 m0 hq0
  unfold fX9_text_118
  refine xj_aload_n F 0 dX9_text_118 rfl ?_
  refine xj_callVI (b := q0) (As := []) (d' := 0) F hq0 lmX9_140 rfl rfl (Nat.le_of_ble_eq_true rfl) (xfit (Nat.le_trans (Nat.le_of_ble_eq_true rfl) hdep)) dX9_text_119 (fun hT z hz => wX9_fine (xnd F) (Nat.le_refl _) hT (a0 := q0) hq0 z hz) (fun v2 m1 => ?_)
  refine xj_if_eq (tgt := 143) F dX9_text_122 (by decide) ?_ ?_
  · exact jX9_text_143 F hdep q0 m1 hq0
  · refine xj_aload_n F 0 dX9_text_125 rfl ?_
    refine xj_callVI (b := q0) (As := []) (d' := 1) F hq0 lmX9_123 rfl rfl (Nat.le_of_ble_eq_true rfl) (xfit (Nat.le_trans (Nat.le_of_ble_eq_true rfl) hdep)) dX9_text_126 (fun hT z hz => wX9_here (xnd F) (Nat.le_refl _) hT (a0 := q0) hq0 z hz) (fun v4 m3 => ?_)
    refine xj_iconst F (-1) dX9_text_129 (by decide) ?_
    refine xj_icmp_eq (tgt := 143) F dX9_text_130 (by decide) ?_ ?_
    · exact jX9_text_143 F hdep q0 m3 hq0
    · refine xj_aload_n F 0 dX9_text_133 rfl ?_
      refine xj_iconst F 1 dX9_text_134 (by decide) ?_
      refine xj_aload_n F 0 dX9_text_135 rfl ?_
      refine xj_get F hq0 lgX9_110 dX9_text_136 (fun v5 => ?_)
      refine xj_callVI (b := q0) (As := [.int 1, .int v5]) (d' := 0) F hq0 lmX9_151 rfl rfl (Nat.le_of_ble_eq_true rfl) (xfit (Nat.le_trans (Nat.le_of_ble_eq_true rfl) hdep)) dX9_text_139 (fun hT z hz => wX9_wrong (xnd F) (Nat.le_refl _) hT (a0 := q0) (a1 := 1) (a2 := v5) hq0 z hz) (fun v7 m6 => ?_)
      refine xj_pop F dX9_text_142 rfl ?_
      exact jX9_text_143 F hdep q0 m6 hq0
set_option maxRecDepth 20000 in
set_option maxHeartbeats 4000000 in
theorem jX9_text_104 {G : XG} {l : Launch} {d : Nat} {X : XX} (F : xF (xE G d) G X mX9_text) (hdep : 51 ≤ d) : ∀ (q0 : Nat) (m0 : XM), isa G q0 9 → xJ (xE G d) (xQ xrI G X mX9_text) G l X mX9_text 104 [(0, .ref (xad G q0))] [] m0 (fX9_text_104 (xln G) q0 m0) := by
  intro q0 m0 hq0
  unfold fX9_text_104
  refine xj_aload_n F 0 dX9_text_104 rfl ?_
  refine xj_ldcwS (i := 9) F (List.mem_of_getElem? (i := 9) rfl) dX9_text_105 ?_
  refine xj_callVI (b := q0) (As := [.ref (G.1.2.1 9)]) (d' := 5) F hq0 lmX9_189 rfl rfl (Nat.le_of_ble_eq_true rfl) (xfit (Nat.le_trans (Nat.le_of_ble_eq_true rfl) hdep)) dX9_text_108 (fun hT z hz => wX9_takesWord (xnd F) (Nat.le_refl _) hT (a0 := q0) (a1 := 9) hq0 (by decide) z hz) (fun v2 m1 => ?_)
  refine xj_if_eq (tgt := 118) F dX9_text_111 (by decide) ?_ ?_
  · exact jX9_text_118 F hdep q0 m1 hq0
  · refine xj_aload_n F 0 dX9_text_114 rfl ?_
    refine xj_callVV (b := q0) (As := []) (d' := 48) F hq0 lmX9_268 rfl rfl (Nat.le_of_ble_eq_true rfl) (xfit (Nat.le_trans (Nat.le_of_ble_eq_true rfl) hdep)) dX9_text_115 (fun hT z hz => wX9_main (xnd F) (Nat.le_refl _) hT (a0 := q0) hq0 z hz) (fun m3 => ?_)
    exact jX9_text_118 F hdep q0 m3 hq0
set_option maxRecDepth 20000 in
set_option maxHeartbeats 4000000 in
theorem jX9_text_80 {G : XG} {l : Launch} {d : Nat} {X : XX} (F : xF (xE G d) G X mX9_text) (hdep : 51 ≤ d) : ∀ (n : Nat) (q0 : Nat) (m0 : XM), isa G q0 9 → xJ (xE G d) (xQ xrI G X mX9_text) G l X mX9_text 80 [(0, .ref (xad G q0))] [] m0 (fX9_text_80 (xln G) n q0 m0) := by
  intro n
  induction n with
  | zero => intro q0 m0 hq0; exact xj_none
  | succ n hr80 =>
    intro q0 m0 hq0
    unfold fX9_text_80
    generalize hrg80 : (fun q0 m0 => fX9_text_80 (xln G) n q0 m0) = r80
    have hr80 : ∀ (q0 : Nat) (m0 : XM), isa G q0 9 → xJ (xE G d) (xQ xrI G X mX9_text) G l X mX9_text 80 [(0, .ref (xad G q0))] [] m0 (r80 q0 m0) := by
      subst hrg80
      exact hr80
    clear hrg80
    refine xj_eq (xv_eq _ _) ?_
    refine xj_aload_n F 0 dX9_text_80 rfl ?_
    refine xj_callVI (b := q0) (As := []) (d' := 0) F hq0 lmX9_140 rfl rfl (Nat.le_of_ble_eq_true rfl) (xfit (Nat.le_trans (Nat.le_of_ble_eq_true rfl) hdep)) dX9_text_81 (fun hT z hz => wX9_fine (xnd F) (Nat.le_refl _) hT (a0 := q0) hq0 z hz) (fun v2 m1 => ?_)
    refine xj_if_eq (tgt := 104) F dX9_text_84 (by decide) ?_ ?_
    · exact jX9_text_104 F hdep q0 m1 hq0
    · refine xj_aload_n F 0 dX9_text_87 rfl ?_
      refine xj_ldcwS (i := 8) F (List.mem_of_getElem? (i := 8) rfl) dX9_text_88 ?_
      refine xj_callVI (b := q0) (As := [.ref (G.1.2.1 8)]) (d' := 4) F hq0 lmX9_144 rfl rfl (Nat.le_of_ble_eq_true rfl) (xfit (Nat.le_trans (Nat.le_of_ble_eq_true rfl) hdep)) dX9_text_91 (fun hT z hz => wX9_isWord (xnd F) (Nat.le_refl _) hT (a0 := q0) (a1 := 8) hq0 (by decide) z hz) (fun v4 m3 => ?_)
      refine xj_if_eq (tgt := 104) F dX9_text_94 (by decide) ?_ ?_
      · exact jX9_text_104 F hdep q0 m3 hq0
      · refine xj_aload_n F 0 dX9_text_97 rfl ?_
        refine xj_callVV (b := q0) (As := []) (d' := 50) F hq0 lmX9_263 rfl rfl (Nat.le_of_ble_eq_true rfl) (xfit (Nat.le_trans (Nat.le_of_ble_eq_true rfl) hdep)) dX9_text_98 (fun hT z hz => wX9_unitHere (xnd F) (Nat.le_refl _) hT (a0 := q0) hq0 z hz) (fun m5 => ?_)
        refine xj_goto (tgt := 80) F dX9_text_101 (by decide) ?_
        exact hr80 q0 m5 hq0
set_option maxRecDepth 20000 in
set_option maxHeartbeats 4000000 in
theorem jX9_text_60 {G : XG} {l : Launch} {d : Nat} {X : XX} (F : xF (xE G d) G X mX9_text) (hdep : 51 ≤ d) : ∀ (n : Nat) (q0 : Nat) (x2 : Int32) (m0 : XM), isa G q0 9 → xJ (xE G d) (xQ xrI G X mX9_text) G l X mX9_text 60 [(0, .ref (xad G q0)), (2, .int x2)] [] m0 (fX9_text_60 (xln G) n q0 x2 m0) := by
  intro n
  induction n with
  | zero => intro q0 x2 m0 hq0; exact xj_none
  | succ n hr60 =>
    intro q0 x2 m0 hq0
    unfold fX9_text_60
    generalize hrg60 : (fun q0 x2 m0 => fX9_text_60 (xln G) n q0 x2 m0) = r60
    have hr60 : ∀ (q0 : Nat) (x2 : Int32) (m0 : XM), isa G q0 9 → xJ (xE G d) (xQ xrI G X mX9_text) G l X mX9_text 60 [(0, .ref (xad G q0)), (2, .int x2)] [] m0 (r60 q0 x2 m0) := by
      subst hrg60
      exact hr60
    clear hrg60
    refine xj_eq (xv_eq _ _) ?_
    refine xj_iload_n F 1 dX9_text_60 rfl ?_
    refine xj_sipush F 3820 dX9_text_61 (by decide) ?_
    refine xj_icmp_ge (tgt := 80) F dX9_text_64 (by decide) ?_ ?_
    · refine xj_sub (lv' := [(0, .ref (xad G q0))]) [0] rfl ?_
      exact jX9_text_80 F hdep XF q0 m0 hq0
    · refine xj_aload_n F 0 dX9_text_67 rfl ?_
      refine xj_getR F hq0 lgX9_23 dX9_text_68 (fun u1 hu1 => ?_)
      refine xj_iload_n F 1 dX9_text_71 rfl ?_
      refine xj_iconst F 0 dX9_text_72 (by decide) ?_
      refine xj_iast F hu1 dX9_text_73 (fun m2 => ?_)
      refine xj_iinc F 1 1 (fun v3 => [(2, .int v3), (0, .ref (xad G q0))]) dX9_text_74 rfl (by decide) (by decide) (fun _ => rfl) (fun v3 => ?_)
      refine xj_goto (tgt := 60) F dX9_text_77 (by decide) ?_
      refine xj_sub (lv' := [(0, .ref (xad G q0)), (2, .int v3)]) [1, 0] rfl ?_
      exact hr60 q0 v3 m2 hq0
set_option maxRecDepth 20000 in
set_option maxHeartbeats 4000000 in
theorem jX9_text_23 {G : XG} {l : Launch} {d : Nat} {X : XX} (F : xF (xE G d) G X mX9_text) (hdep : 51 ≤ d) : ∀ (q0 : Nat) (x1 : Int32) (p0 : Nat) (s1 : Int32) (m0 : XM), isa G q0 9 → isa G p0 9 → xJ (xE G d) (xQ xrI G X mX9_text) G l X mX9_text 23 [(0, .ref (xad G q0)), (1, .int x1)] [.int s1, .ref (xad G p0)] m0 (fX9_text_23 (xln G) q0 x1 p0 s1 m0) := by
  intro q0 x1 p0 s1 m0 hq0 hp0
  unfold fX9_text_23
  refine xj_iconst F 1 dX9_text_23 (by decide) ?_
  refine xj_iconst F 1 dX9_text_24 (by decide) ?_
  refine xj_callVI (b := p0) (As := [.int s1, .int 1, .int 1]) (d' := 0) F hp0 lmX9_257 rfl rfl (Nat.le_of_ble_eq_true rfl) (xfit (Nat.le_trans (Nat.le_of_ble_eq_true rfl) hdep)) dX9_text_25 (fun hT z hz => wX9_bad (xnd F) (Nat.le_refl _) hT (a0 := p0) (a1 := s1) (a2 := 1) (a3 := 1) hp0 z hz) (fun v2 m1 => ?_)
  refine xj_if_eq (tgt := 33) F dX9_text_28 (by decide) ?_ ?_
  · refine xj_aload_n F 0 dX9_text_33 rfl ?_
    refine xj_iconst F 0 dX9_text_34 (by decide) ?_
    refine xj_put F hq0 lpX9_94 dX9_text_35 (fun m3 => ?_)
    refine xj_aload_n F 0 dX9_text_38 rfl ?_
    refine xj_iload_n F 1 dX9_text_39 rfl ?_
    refine xj_put F hq0 lpX9_107 dX9_text_40 (fun m4 => ?_)
    refine xj_aload_n F 0 dX9_text_43 rfl ?_
    refine xj_iconst F 0 dX9_text_44 (by decide) ?_
    refine xj_put F hq0 lpX9_110 dX9_text_45 (fun m5 => ?_)
    refine xj_aload_n F 0 dX9_text_48 rfl ?_
    refine xj_iconst F 0 dX9_text_49 (by decide) ?_
    refine xj_put F hq0 lpX9_117 dX9_text_50 (fun m6 => ?_)
    refine xj_aload_n F 0 dX9_text_53 rfl ?_
    refine xj_iconst F (-1) dX9_text_54 (by decide) ?_
    refine xj_put F hq0 lpX9_120 dX9_text_55 (fun m7 => ?_)
    refine xj_iconst F 0 dX9_text_58 (by decide) ?_
    refine xj_istore_n (lv' := [(2, .int 0), (0, .ref (xad G q0)), (1, .int x1)]) F dX9_text_59 (by decide) rfl ?_
    refine xj_sub (lv' := [(0, .ref (xad G q0)), (2, .int 0)]) [1, 0] rfl ?_
    exact jX9_text_60 F hdep XF q0 0 m7 hq0
  · refine xj_iconst F 0 dX9_text_31 (by decide) ?_
    exact xj_ret F rfl dX9_text_32
set_option maxRecDepth 20000 in
set_option maxHeartbeats 4000000 in
theorem wX9_text {G : XG} {l : Launch} {d : Nat} (hn : xN G) (hdep : 51 ≤ d) {m0 : XM} (hT : xT G m0) {a0 : Nat} {a1 : Int32} (ha0 : isa G a0 9) : ∀ z, fX9_text (xln G) a0 a1 m0 = some z → xMet G l mX9_text d [.ref (xad G a0), .int a1] m0 (xrI z) := by
  refine xMet_of (by decide +kernel) hn hT (Nat.le_of_ble_eq_true rfl) (fun X F => ?_)
  refine xj_sub (lv' := [(0, .ref (xad G a0)), (1, .int a1)]) [0, 1] rfl ?_
  unfold fX9_text
  refine xj_aload_n F 0 dX9_text_0 rfl ?_
  refine xj_iconst F 0 dX9_text_1 (by decide) ?_
  refine xj_put F ha0 lpX9_91 dX9_text_2 (fun m1 => ?_)
  refine xj_aload_n F 0 dX9_text_5 rfl ?_
  refine xj_iload_n F 1 dX9_text_6 rfl ?_
  refine xj_iconst F 0 dX9_text_7 (by decide) ?_
  refine xj_aload_n F 0 dX9_text_8 rfl ?_
  refine xj_get F ha0 lgX9_94 dX9_text_9 (fun v2 => ?_)
  refine xj_callSI (As := [.int a1, .int 0, .int v2]) (d' := 0) F lmX9_155 rfl rfl (Nat.le_of_ble_eq_true rfl) (xfit (Nat.le_trans (Nat.le_of_ble_eq_true rfl) hdep)) dX9_text_12 (fun hT z hz => wX9_in (xnd F) (Nat.le_refl _) hT (a0 := a1) (a1 := 0) (a2 := v2)  z hz) (fun v4 m3 => ?_)
  refine xj_if_ne (tgt := 22) F dX9_text_15 (by decide) ?_ ?_
  · refine xj_iconst F 0 dX9_text_22 (by decide) ?_
    exact jX9_text_23 F hdep a0 a1 a0 0 m3 ha0 ha0
  · refine xj_iconst F 1 dX9_text_18 (by decide) ?_
    refine xj_goto (tgt := 23) F dX9_text_19 (by decide) ?_
    exact jX9_text_23 F hdep a0 a1 a0 1 m3 ha0 ha0
set_option maxRecDepth 20000 in
set_option maxHeartbeats 4000000 in
theorem wX9_fault {G : XG} {l : Launch} {d : Nat} (hn : xN G) (hdep : 0 ≤ d) {m0 : XM} (hT : xT G m0) {a0 : Nat} (ha0 : isa G a0 9) : ∀ z, fX9_fault (xln G) a0 m0 = some z → xMet G l mX9_fault d [.ref (xad G a0)] m0 (xrI z) := by
  refine xMet_of (by decide +kernel) hn hT (Nat.le_of_ble_eq_true rfl) (fun X F => ?_)
  refine xj_sub (lv' := [(0, .ref (xad G a0))]) [0] rfl ?_
  unfold fX9_fault
  refine xj_aload_n F 0 dX9_fault_0 rfl ?_
  refine xj_iconst F 0 dX9_fault_1 (by decide) ?_
  refine xj_put F ha0 lpX9_91 dX9_fault_2 (fun m1 => ?_)
  refine xj_aload_n F 0 dX9_fault_5 rfl ?_
  refine xj_get F ha0 lgX9_13 dX9_fault_6 (fun v2 => ?_)
  exact xj_ret F rfl dX9_fault_9
set_option maxRecDepth 20000 in
set_option maxHeartbeats 4000000 in
theorem wX9_isUnit {G : XG} {l : Launch} {d : Nat} (hn : xN G) (hdep : 1 ≤ d) {m0 : XM} (hT : xT G m0) {a0 : Nat} {a1 : Int32} (ha0 : isa G a0 9) : ∀ z, fX9_isUnit (xln G) a0 a1 m0 = some z → xMet G l mX9_isUnit d [.ref (xad G a0), .int a1] m0 (xrI z) := by
  refine xMet_of (by decide +kernel) hn hT (Nat.le_of_ble_eq_true rfl) (fun X F => ?_)
  refine xj_sub (lv' := [(0, .ref (xad G a0)), (1, .int a1)]) [0, 1] rfl ?_
  unfold fX9_isUnit
  refine xj_iload_n F 1 dX9_isUnit_0 rfl ?_
  refine xj_iconst F 0 dX9_isUnit_1 (by decide) ?_
  refine xj_aload_n F 0 dX9_isUnit_2 rfl ?_
  refine xj_getR F ha0 lgX9_20 dX9_isUnit_3 (fun u1 hu1 => ?_)
  refine xj_iconst F 0 dX9_isUnit_6 (by decide) ?_
  refine xj_iald F hu1 dX9_isUnit_7 (fun v2 => ?_)
  refine xj_iconst F 1 dX9_isUnit_8 (by decide) ?_
  refine xj_isub F dX9_isUnit_9 (fun v3 => ?_)
  refine xj_callSI (As := [.int a1, .int 0, .int v3]) (d' := 0) F lmX9_155 rfl rfl (Nat.le_of_ble_eq_true rfl) (xfit (Nat.le_trans (Nat.le_of_ble_eq_true rfl) hdep)) dX9_isUnit_10 (fun hT z hz => wX9_in (xnd F) (Nat.le_refl _) hT (a0 := a1) (a1 := 0) (a2 := v3)  z hz) (fun v5 m4 => ?_)
  exact xj_retB F rfl dX9_isUnit_13
set_option maxRecDepth 20000 in
set_option maxHeartbeats 4000000 in
theorem jX9_isMember_31 {G : XG} {l : Launch} {d : Nat} {X : XX} (F : xF (xE G d) G X mX9_isMember) (hdep : 2 ≤ d) : ∀ (m0 : XM), xJ (xE G d) (xQ xrI G X mX9_isMember) G l X mX9_isMember 31 [] [] m0 (fX9_isMember_31 (xln G)  m0) := by
  intro m0
  unfold fX9_isMember_31
  refine xj_iconst F 0 dX9_isMember_31 (by decide) ?_
  exact xj_retZ F rfl rfl dX9_isMember_32
set_option maxRecDepth 20000 in
set_option maxHeartbeats 4000000 in
theorem wX9_isMember {G : XG} {l : Launch} {d : Nat} (hn : xN G) (hdep : 2 ≤ d) {m0 : XM} (hT : xT G m0) {a0 : Nat} {a1 : Int32} {a2 : Int32} (ha0 : isa G a0 9) : ∀ z, fX9_isMember (xln G) a0 a1 a2 m0 = some z → xMet G l mX9_isMember d [.ref (xad G a0), .int a1, .int a2] m0 (xrI z) := by
  refine xMet_of (by decide +kernel) hn hT (Nat.le_of_ble_eq_true rfl) (fun X F => ?_)
  refine xj_sub (lv' := [(0, .ref (xad G a0)), (1, .int a1), (2, .int a2)]) [0, 1, 2] rfl ?_
  unfold fX9_isMember
  refine xj_aload_n F 0 dX9_isMember_0 rfl ?_
  refine xj_iload_n F 1 dX9_isMember_1 rfl ?_
  refine xj_callVI (b := a0) (As := [.int a1]) (d' := 1) F ha0 lmX9_283 rfl rfl (Nat.le_of_ble_eq_true rfl) (xfit (Nat.le_trans (Nat.le_of_ble_eq_true rfl) hdep)) dX9_isMember_2 (fun hT z hz => wX9_isUnit (xnd F) (Nat.le_refl _) hT (a0 := a0) (a1 := a1) ha0 z hz) (fun v2 m1 => ?_)
  refine xj_if_eq (tgt := 31) F dX9_isMember_5 (by decide) ?_ ?_
  · refine xj_sub (lv' := []) [] rfl ?_
    exact jX9_isMember_31 F hdep m1
  · refine xj_iload_n F 2 dX9_isMember_8 rfl ?_
    refine xj_iconst F 0 dX9_isMember_9 (by decide) ?_
    refine xj_aload_n F 0 dX9_isMember_10 rfl ?_
    refine xj_getR F ha0 lgX9_20 dX9_isMember_11 (fun u3 hu3 => ?_)
    refine xj_iload_n F 1 dX9_isMember_14 rfl ?_
    refine xj_iconst F 2 dX9_isMember_15 (by decide) ?_
    refine xj_callSI (As := [.ref (xad G u3), .int a1, .int 2]) (d' := 0) F lmX9_97 rfl rfl (Nat.le_of_ble_eq_true rfl) (xfit (Nat.le_trans (Nat.le_of_ble_eq_true rfl) hdep)) dX9_isMember_16 (fun hT z hz => wX9_unitOf (xnd F) (Nat.le_refl _) hT (a0 := u3) (a1 := a1) (a2 := 2) hu3 z hz) (fun v5 m4 => ?_)
    refine xj_iconst F 1 dX9_isMember_19 (by decide) ?_
    refine xj_isub F dX9_isMember_20 (fun v6 => ?_)
    refine xj_callSI (As := [.int a2, .int 0, .int v6]) (d' := 0) F lmX9_155 rfl rfl (Nat.le_of_ble_eq_true rfl) (xfit (Nat.le_trans (Nat.le_of_ble_eq_true rfl) hdep)) dX9_isMember_21 (fun hT z hz => wX9_in (xnd F) (Nat.le_refl _) hT (a0 := a2) (a1 := 0) (a2 := v6)  z hz) (fun v8 m7 => ?_)
    refine xj_if_eq (tgt := 31) F dX9_isMember_24 (by decide) ?_ ?_
    · refine xj_sub (lv' := []) [] rfl ?_
      exact jX9_isMember_31 F hdep m7
    · refine xj_iconst F 1 dX9_isMember_27 (by decide) ?_
      refine xj_goto (tgt := 32) F dX9_isMember_28 (by decide) ?_
      exact xj_retZ F rfl rfl dX9_isMember_32
set_option maxRecDepth 20000 in
set_option maxHeartbeats 4000000 in
theorem jX9_shifts_61 {G : XG} {l : Launch} {d : Nat} {X : XX} (F : xF (xE G d) G X mX9_shifts) (hdep : 0 ≤ d) : ∀ (n : Nat) (q0 : Nat) (x3 : Int32) (x4 : Int32) (x5 : Int32) (x6 : Int32) (m0 : XM), isa G q0 9 → xJ (xE G d) (xQ xrV G X mX9_shifts) G l X mX9_shifts 61 [(0, .ref (xad G q0)), (3, .int x3), (4, .int x4), (5, .int x5), (6, .int x6)] [] m0 (fX9_shifts_61 (xln G) n q0 x3 x4 x5 x6 m0) := by
  intro n
  induction n with
  | zero => intro q0 x3 x4 x5 x6 m0 hq0; exact xj_none
  | succ n hr61 =>
    intro q0 x3 x4 x5 x6 m0 hq0
    unfold fX9_shifts_61
    generalize hrg61 : (fun q0 x3 x4 x5 x6 m0 => fX9_shifts_61 (xln G) n q0 x3 x4 x5 x6 m0) = r61
    have hr61 : ∀ (q0 : Nat) (x3 : Int32) (x4 : Int32) (x5 : Int32) (x6 : Int32) (m0 : XM), isa G q0 9 → xJ (xE G d) (xQ xrV G X mX9_shifts) G l X mX9_shifts 61 [(0, .ref (xad G q0)), (3, .int x3), (4, .int x4), (5, .int x5), (6, .int x6)] [] m0 (r61 q0 x3 x4 x5 x6 m0) := by
      subst hrg61
      exact hr61
    clear hrg61
    refine xj_eq (xv_eq _ _) ?_
    refine xj_iload F 4 dX9_shifts_61 rfl ?_
    refine xj_iload_n F 1 dX9_shifts_63 rfl ?_
    refine xj_icmp_le (tgt := 95) F dX9_shifts_64 (by decide) ?_ ?_
    · refine xj_aload_n F 0 dX9_shifts_95 rfl ?_
      refine xj_getR F hq0 lgX9_20 dX9_shifts_96 (fun u1 hu1 => ?_)
      refine xj_iload F 2 dX9_shifts_99 rfl ?_
      refine xj_iload_n F 1 dX9_shifts_101 rfl ?_
      refine xj_iadd F dX9_shifts_102 (fun v2 => ?_)
      refine xj_iload F 3 dX9_shifts_103 rfl ?_
      refine xj_iast F hu1 dX9_shifts_105 (fun m3 => ?_)
      exact xj_retV F rfl dX9_shifts_106
    · refine xj_aload_n F 0 dX9_shifts_67 rfl ?_
      refine xj_getR F hq0 lgX9_20 dX9_shifts_68 (fun u4 hu4 => ?_)
      refine xj_iload F 2 dX9_shifts_71 rfl ?_
      refine xj_iload F 4 dX9_shifts_73 rfl ?_
      refine xj_iadd F dX9_shifts_75 (fun v5 => ?_)
      refine xj_aload_n F 0 dX9_shifts_76 rfl ?_
      refine xj_getR F hq0 lgX9_20 dX9_shifts_77 (fun u6 hu6 => ?_)
      refine xj_iload F 2 dX9_shifts_80 rfl ?_
      refine xj_iload F 4 dX9_shifts_82 rfl ?_
      refine xj_iadd F dX9_shifts_84 (fun v7 => ?_)
      refine xj_iconst F 1 dX9_shifts_85 (by decide) ?_
      refine xj_isub F dX9_shifts_86 (fun v8 => ?_)
      refine xj_iald F hu6 dX9_shifts_87 (fun v9 => ?_)
      refine xj_iast F hu4 dX9_shifts_88 (fun m10 => ?_)
      refine xj_iinc F 4 (-1) (fun v11 => [(6, .int v11), (0, .ref (xad G q0)), (3, .int x3), (4, .int x4), (5, .int x5)]) dX9_shifts_89 rfl (by decide) (by decide) (fun _ => rfl) (fun v11 => ?_)
      refine xj_goto (tgt := 61) F dX9_shifts_92 (by decide) ?_
      refine xj_sub (lv' := [(0, .ref (xad G q0)), (3, .int x3), (4, .int x4), (5, .int x5), (6, .int v11)]) [1, 2, 3, 4, 0] rfl ?_
      exact hr61 q0 x3 x4 x5 v11 m10 hq0
set_option maxRecDepth 20000 in
set_option maxHeartbeats 4000000 in
theorem jX9_shifts_24 {G : XG} {l : Launch} {d : Nat} {X : XX} (F : xF (xE G d) G X mX9_shifts) (hdep : 0 ≤ d) : ∀ (n : Nat) (q0 : Nat) (x2 : Int32) (x3 : Int32) (x4 : Int32) (x5 : Int32) (x6 : Int32) (m0 : XM), isa G q0 9 → xJ (xE G d) (xQ xrV G X mX9_shifts) G l X mX9_shifts 24 [(0, .ref (xad G q0)), (2, .int x2), (3, .int x3), (4, .int x4), (5, .int x5), (6, .int x6)] [] m0 (fX9_shifts_24 (xln G) n q0 x2 x3 x4 x5 x6 m0) := by
  intro n
  induction n with
  | zero => intro q0 x2 x3 x4 x5 x6 m0 hq0; exact xj_none
  | succ n hr24 =>
    intro q0 x2 x3 x4 x5 x6 m0 hq0
    unfold fX9_shifts_24
    generalize hrg24 : (fun q0 x2 x3 x4 x5 x6 m0 => fX9_shifts_24 (xln G) n q0 x2 x3 x4 x5 x6 m0) = r24
    have hr24 : ∀ (q0 : Nat) (x2 : Int32) (x3 : Int32) (x4 : Int32) (x5 : Int32) (x6 : Int32) (m0 : XM), isa G q0 9 → xJ (xE G d) (xQ xrV G X mX9_shifts) G l X mX9_shifts 24 [(0, .ref (xad G q0)), (2, .int x2), (3, .int x3), (4, .int x4), (5, .int x5), (6, .int x6)] [] m0 (r24 q0 x2 x3 x4 x5 x6 m0) := by
      subst hrg24
      exact hr24
    clear hrg24
    refine xj_eq (xv_eq _ _) ?_
    refine xj_iload F 5 dX9_shifts_24 rfl ?_
    refine xj_iload_n F 2 dX9_shifts_26 rfl ?_
    refine xj_icmp_ge (tgt := 58) F dX9_shifts_27 (by decide) ?_ ?_
    · refine xj_iload_n F 1 dX9_shifts_58 rfl ?_
      refine xj_istore (lv' := [(6, .int x2), (0, .ref (xad G q0)), (2, .int x2), (3, .int x3), (4, .int x4), (5, .int x5)]) F dX9_shifts_59 (by decide) rfl ?_
      refine xj_sub (lv' := [(0, .ref (xad G q0)), (3, .int x3), (4, .int x4), (5, .int x5), (6, .int x2)]) [1, 3, 4, 5, 0] rfl ?_
      exact jX9_shifts_61 F hdep XF q0 x3 x4 x5 x2 m0 hq0
    · refine xj_aload_n F 0 dX9_shifts_30 rfl ?_
      refine xj_getR F hq0 lgX9_20 dX9_shifts_31 (fun u1 hu1 => ?_)
      refine xj_iload F 3 dX9_shifts_34 rfl ?_
      refine xj_iload F 5 dX9_shifts_36 rfl ?_
      refine xj_iadd F dX9_shifts_38 (fun v2 => ?_)
      refine xj_aload_n F 0 dX9_shifts_39 rfl ?_
      refine xj_getR F hq0 lgX9_20 dX9_shifts_40 (fun u3 hu3 => ?_)
      refine xj_iload F 3 dX9_shifts_43 rfl ?_
      refine xj_iload F 5 dX9_shifts_45 rfl ?_
      refine xj_iadd F dX9_shifts_47 (fun v4 => ?_)
      refine xj_iconst F 1 dX9_shifts_48 (by decide) ?_
      refine xj_iadd F dX9_shifts_49 (fun v5 => ?_)
      refine xj_iald F hu3 dX9_shifts_50 (fun v6 => ?_)
      refine xj_iast F hu1 dX9_shifts_51 (fun m7 => ?_)
      refine xj_iinc F 5 1 (fun v8 => [(6, .int v8), (0, .ref (xad G q0)), (2, .int x2), (3, .int x3), (4, .int x4), (5, .int x5)]) dX9_shifts_52 rfl (by decide) (by decide) (fun _ => rfl) (fun v8 => ?_)
      refine xj_goto (tgt := 24) F dX9_shifts_55 (by decide) ?_
      refine xj_sub (lv' := [(0, .ref (xad G q0)), (2, .int x2), (3, .int x3), (4, .int x4), (5, .int x5), (6, .int v8)]) [1, 2, 3, 4, 5, 0] rfl ?_
      exact hr24 q0 x2 x3 x4 x5 v8 m7 hq0
set_option maxRecDepth 20000 in
set_option maxHeartbeats 4000000 in
theorem wX9_shifts {G : XG} {l : Launch} {d : Nat} (hn : xN G) (hdep : 0 ≤ d) {m0 : XM} (hT : xT G m0) {a0 : Nat} {a1 : Int32} {a2 : Int32} {a3 : Int32} (ha0 : isa G a0 9) : ∀ z, fX9_shifts (xln G) a0 a1 a2 a3 m0 = some z → xMet G l mX9_shifts d [.ref (xad G a0), .int a1, .int a2, .int a3] m0 (xrV z) := by
  refine xMet_of (by decide +kernel) hn hT (Nat.le_of_ble_eq_true rfl) (fun X F => ?_)
  refine xj_sub (lv' := [(0, .ref (xad G a0)), (1, .int a1), (2, .int a2), (3, .int a3)]) [0, 1, 2, 3] rfl ?_
  unfold fX9_shifts
  refine xj_iconst F 5 dX9_shifts_0 (by decide) ?_
  refine xj_bipush F 15 dX9_shifts_1 (by decide) ?_
  refine xj_iload_n F 1 dX9_shifts_3 rfl ?_
  refine xj_imul F dX9_shifts_4 (fun v1 => ?_)
  refine xj_iadd F dX9_shifts_5 (fun v2 => ?_)
  refine xj_iconst F 3 dX9_shifts_6 (by decide) ?_
  refine xj_iadd F dX9_shifts_7 (fun v3 => ?_)
  refine xj_istore (lv' := [(4, .int v3), (0, .ref (xad G a0)), (1, .int a1), (2, .int a2), (3, .int a3)]) F dX9_shifts_8 (by decide) rfl ?_
  refine xj_aload_n F 1 dX9_shifts_10 rfl ?_
  refine xj_getR F ha0 lgX9_20 dX9_shifts_11 (fun u4 hu4 => ?_)
  refine xj_iload F 0 dX9_shifts_14 rfl ?_
  refine xj_iload_n F 3 dX9_shifts_16 rfl ?_
  refine xj_iadd F dX9_shifts_17 (fun v5 => ?_)
  refine xj_iald F hu4 dX9_shifts_18 (fun v6 => ?_)
  refine xj_istore (lv' := [(5, .int v6), (4, .int v3), (0, .ref (xad G a0)), (1, .int a1), (2, .int a2), (3, .int a3)]) F dX9_shifts_19 (by decide) rfl ?_
  refine xj_iload_n F 4 dX9_shifts_21 rfl ?_
  refine xj_istore (lv' := [(6, .int a2), (5, .int v6), (4, .int v3), (0, .ref (xad G a0)), (1, .int a1), (2, .int a2), (3, .int a3)]) F dX9_shifts_22 (by decide) rfl ?_
  refine xj_sub (lv' := [(0, .ref (xad G a0)), (2, .int a2), (3, .int a3), (4, .int v3), (5, .int v6), (6, .int a2)]) [3, 5, 6, 2, 1, 0] rfl ?_
  exact jX9_shifts_24 F hdep XF a0 a2 a3 v3 v6 a2 m0 ha0
set_option maxRecDepth 20000 in
set_option maxHeartbeats 4000000 in
theorem jX9_remembers_83 {G : XG} {l : Launch} {d : Nat} {X : XX} (F : xF (xE G d) G X mX9_remembers) (hdep : 0 ≤ d) : ∀ (q0 : Nat) (x1 : Int32) (x2 : Int32) (x3 : Int32) (m0 : XM), isa G q0 9 → xJ (xE G d) (xQ xrV G X mX9_remembers) G l X mX9_remembers 83 [(0, .ref (xad G q0)), (1, .int x1), (2, .int x2), (3, .int x3)] [] m0 (fX9_remembers_83 (xln G) q0 x1 x2 x3 m0) := by
  intro q0 x1 x2 x3 m0 hq0
  unfold fX9_remembers_83
  refine xj_aload_n F 0 dX9_remembers_83 rfl ?_
  refine xj_getR F hq0 lgX9_30 dX9_remembers_84 (fun u1 hu1 => ?_)
  refine xj_aload_n F 0 dX9_remembers_87 rfl ?_
  refine xj_get F hq0 lgX9_276 dX9_remembers_88 (fun v2 => ?_)
  refine xj_iload_n F 1 dX9_remembers_91 rfl ?_
  refine xj_iast F hu1 dX9_remembers_92 (fun m3 => ?_)
  refine xj_aload_n F 0 dX9_remembers_93 rfl ?_
  refine xj_getR F hq0 lgX9_33 dX9_remembers_94 (fun u4 hu4 => ?_)
  refine xj_aload_n F 0 dX9_remembers_97 rfl ?_
  refine xj_get F hq0 lgX9_276 dX9_remembers_98 (fun v5 => ?_)
  refine xj_iload_n F 2 dX9_remembers_101 rfl ?_
  refine xj_iast F hu4 dX9_remembers_102 (fun m6 => ?_)
  refine xj_aload_n F 0 dX9_remembers_103 rfl ?_
  refine xj_getR F hq0 lgX9_36 dX9_remembers_104 (fun u7 hu7 => ?_)
  refine xj_aload_n F 0 dX9_remembers_107 rfl ?_
  refine xj_get F hq0 lgX9_276 dX9_remembers_108 (fun v8 => ?_)
  refine xj_iload_n F 3 dX9_remembers_111 rfl ?_
  refine xj_iast F hu7 dX9_remembers_112 (fun m9 => ?_)
  refine xj_aload_n F 0 dX9_remembers_113 rfl ?_
  refine xj_dup F dX9_remembers_114 rfl ?_
  refine xj_get F hq0 lgX9_276 dX9_remembers_115 (fun v10 => ?_)
  refine xj_iconst F 1 dX9_remembers_118 (by decide) ?_
  refine xj_iadd F dX9_remembers_119 (fun v11 => ?_)
  refine xj_put F hq0 lpX9_276 dX9_remembers_120 (fun m12 => ?_)
  refine xj_aload_n F 0 dX9_remembers_123 rfl ?_
  refine xj_iconst F 0 dX9_remembers_124 (by decide) ?_
  refine xj_putZ F hq0 lpX9_279 rfl rfl dX9_remembers_125 (fun m13 => ?_)
  exact xj_retV F rfl dX9_remembers_128
set_option maxRecDepth 20000 in
set_option maxHeartbeats 4000000 in
theorem jX9_remembers_12 {G : XG} {l : Launch} {d : Nat} {X : XX} (F : xF (xE G d) G X mX9_remembers) (hdep : 0 ≤ d) : ∀ (n : Nat) (q0 : Nat) (x1 : Int32) (x2 : Int32) (x3 : Int32) (x4 : Int32) (m0 : XM), isa G q0 9 → xJ (xE G d) (xQ xrV G X mX9_remembers) G l X mX9_remembers 12 [(0, .ref (xad G q0)), (1, .int x1), (2, .int x2), (3, .int x3), (4, .int x4)] [] m0 (fX9_remembers_12 (xln G) n q0 x1 x2 x3 x4 m0) := by
  intro n
  induction n with
  | zero => intro q0 x1 x2 x3 x4 m0 hq0; exact xj_none
  | succ n hr12 =>
    intro q0 x1 x2 x3 x4 m0 hq0
    unfold fX9_remembers_12
    generalize hrg12 : (fun q0 x1 x2 x3 x4 m0 => fX9_remembers_12 (xln G) n q0 x1 x2 x3 x4 m0) = r12
    have hr12 : ∀ (q0 : Nat) (x1 : Int32) (x2 : Int32) (x3 : Int32) (x4 : Int32) (m0 : XM), isa G q0 9 → xJ (xE G d) (xQ xrV G X mX9_remembers) G l X mX9_remembers 12 [(0, .ref (xad G q0)), (1, .int x1), (2, .int x2), (3, .int x3), (4, .int x4)] [] m0 (r12 q0 x1 x2 x3 x4 m0) := by
      subst hrg12
      exact hr12
    clear hrg12
    refine xj_eq (xv_eq _ _) ?_
    refine xj_iload F 4 dX9_remembers_12 rfl ?_
    refine xj_bipush F 16 dX9_remembers_14 (by decide) ?_
    refine xj_icmp_ge (tgt := 73) F dX9_remembers_16 (by decide) ?_ ?_
    · refine xj_aload_n F 0 dX9_remembers_73 rfl ?_
      refine xj_dup F dX9_remembers_74 rfl ?_
      refine xj_get F hq0 lgX9_276 dX9_remembers_75 (fun v1 => ?_)
      refine xj_iconst F 1 dX9_remembers_78 (by decide) ?_
      refine xj_isub F dX9_remembers_79 (fun v2 => ?_)
      refine xj_put F hq0 lpX9_276 dX9_remembers_80 (fun m3 => ?_)
      refine xj_sub (lv' := [(0, .ref (xad G q0)), (1, .int x1), (2, .int x2), (3, .int x3)]) [0, 1, 2, 3] rfl ?_
      exact jX9_remembers_83 F hdep q0 x1 x2 x3 m3 hq0
    · refine xj_aload_n F 0 dX9_remembers_19 rfl ?_
      refine xj_getR F hq0 lgX9_30 dX9_remembers_20 (fun u4 hu4 => ?_)
      refine xj_iload F 4 dX9_remembers_23 rfl ?_
      refine xj_iconst F 1 dX9_remembers_25 (by decide) ?_
      refine xj_isub F dX9_remembers_26 (fun v5 => ?_)
      refine xj_aload_n F 0 dX9_remembers_27 rfl ?_
      refine xj_getR F hq0 lgX9_30 dX9_remembers_28 (fun u6 hu6 => ?_)
      refine xj_iload F 4 dX9_remembers_31 rfl ?_
      refine xj_iald F hu6 dX9_remembers_33 (fun v7 => ?_)
      refine xj_iast F hu4 dX9_remembers_34 (fun m8 => ?_)
      refine xj_aload_n F 0 dX9_remembers_35 rfl ?_
      refine xj_getR F hq0 lgX9_33 dX9_remembers_36 (fun u9 hu9 => ?_)
      refine xj_iload F 4 dX9_remembers_39 rfl ?_
      refine xj_iconst F 1 dX9_remembers_41 (by decide) ?_
      refine xj_isub F dX9_remembers_42 (fun v10 => ?_)
      refine xj_aload_n F 0 dX9_remembers_43 rfl ?_
      refine xj_getR F hq0 lgX9_33 dX9_remembers_44 (fun u11 hu11 => ?_)
      refine xj_iload F 4 dX9_remembers_47 rfl ?_
      refine xj_iald F hu11 dX9_remembers_49 (fun v12 => ?_)
      refine xj_iast F hu9 dX9_remembers_50 (fun m13 => ?_)
      refine xj_aload_n F 0 dX9_remembers_51 rfl ?_
      refine xj_getR F hq0 lgX9_36 dX9_remembers_52 (fun u14 hu14 => ?_)
      refine xj_iload F 4 dX9_remembers_55 rfl ?_
      refine xj_iconst F 1 dX9_remembers_57 (by decide) ?_
      refine xj_isub F dX9_remembers_58 (fun v15 => ?_)
      refine xj_aload_n F 0 dX9_remembers_59 rfl ?_
      refine xj_getR F hq0 lgX9_36 dX9_remembers_60 (fun u16 hu16 => ?_)
      refine xj_iload F 4 dX9_remembers_63 rfl ?_
      refine xj_iald F hu16 dX9_remembers_65 (fun v17 => ?_)
      refine xj_iast F hu14 dX9_remembers_66 (fun m18 => ?_)
      refine xj_iinc F 4 1 (fun v19 => [(4, .int v19), (0, .ref (xad G q0)), (1, .int x1), (2, .int x2), (3, .int x3)]) dX9_remembers_67 rfl (by decide) (by decide) (fun _ => rfl) (fun v19 => ?_)
      refine xj_goto (tgt := 12) F dX9_remembers_70 (by decide) ?_
      refine xj_sub (lv' := [(0, .ref (xad G q0)), (1, .int x1), (2, .int x2), (3, .int x3), (4, .int v19)]) [1, 2, 3, 4, 0] rfl ?_
      exact hr12 q0 x1 x2 x3 v19 m18 hq0
set_option maxRecDepth 20000 in
set_option maxHeartbeats 4000000 in
theorem wX9_remembers {G : XG} {l : Launch} {d : Nat} (hn : xN G) (hdep : 0 ≤ d) {m0 : XM} (hT : xT G m0) {a0 : Nat} {a1 : Int32} {a2 : Int32} {a3 : Int32} (ha0 : isa G a0 9) : ∀ z, fX9_remembers (xln G) a0 a1 a2 a3 m0 = some z → xMet G l mX9_remembers d [.ref (xad G a0), .int a1, .int a2, .int a3] m0 (xrV z) := by
  refine xMet_of (by decide +kernel) hn hT (Nat.le_of_ble_eq_true rfl) (fun X F => ?_)
  refine xj_sub (lv' := [(0, .ref (xad G a0)), (1, .int a1), (2, .int a2), (3, .int a3)]) [0, 1, 2, 3] rfl ?_
  unfold fX9_remembers
  refine xj_aload_n F 0 dX9_remembers_0 rfl ?_
  refine xj_get F ha0 lgX9_276 dX9_remembers_1 (fun v1 => ?_)
  refine xj_bipush F 16 dX9_remembers_4 (by decide) ?_
  refine xj_icmp_ne (tgt := 83) F dX9_remembers_6 (by decide) ?_ ?_
  · exact jX9_remembers_83 F hdep a0 a1 a2 a3 m0 ha0
  · refine xj_iconst F 1 dX9_remembers_9 (by decide) ?_
    refine xj_istore (lv' := [(4, .int 1), (0, .ref (xad G a0)), (1, .int a1), (2, .int a2), (3, .int a3)]) F dX9_remembers_10 (by decide) rfl ?_
    refine xj_sub (lv' := [(0, .ref (xad G a0)), (1, .int a1), (2, .int a2), (3, .int a3), (4, .int 1)]) [1, 2, 3, 4, 0] rfl ?_
    exact jX9_remembers_12 F hdep XF a0 a1 a2 a3 1 m0 ha0
set_option maxRecDepth 20000 in
set_option maxHeartbeats 4000000 in
theorem jX9_move_29 {G : XG} {l : Launch} {d : Nat} {X : XX} (F : xF (xE G d) G X mX9_move) (hdep : 3 ≤ d) : ∀ (q0 : Nat) (x1 : Int32) (x2 : Int32) (x3 : Int32) (p0 : Nat) (s1 : Int32) (m0 : XM), isa G q0 9 → isa G p0 9 → xJ (xE G d) (xQ xrI G X mX9_move) G l X mX9_move 29 [(0, .ref (xad G q0)), (1, .int x1), (2, .int x2), (3, .int x3)] [.int s1, .ref (xad G p0)] m0 (fX9_move_29 (xln G) q0 x1 x2 x3 p0 s1 m0) := by
  intro q0 x1 x2 x3 p0 s1 m0 hq0 hp0
  unfold fX9_move_29
  refine xj_iconst F 1 dX9_move_29 (by decide) ?_
  refine xj_iconst F 0 dX9_move_30 (by decide) ?_
  refine xj_callVI (b := p0) (As := [.int s1, .int 1, .int 0]) (d' := 0) F hp0 lmX9_257 rfl rfl (Nat.le_of_ble_eq_true rfl) (xfit (Nat.le_trans (Nat.le_of_ble_eq_true rfl) hdep)) dX9_move_31 (fun hT z hz => wX9_bad (xnd F) (Nat.le_refl _) hT (a0 := p0) (a1 := s1) (a2 := 1) (a3 := 0) hp0 z hz) (fun v2 m1 => ?_)
  refine xj_if_eq (tgt := 39) F dX9_move_34 (by decide) ?_ ?_
  · refine xj_iload_n F 2 dX9_move_39 rfl ?_
    refine xj_iload_n F 3 dX9_move_40 rfl ?_
    refine xj_icmp_ne (tgt := 46) F dX9_move_41 (by decide) ?_ ?_
    · refine xj_aload_n F 0 dX9_move_46 rfl ?_
      refine xj_iload_n F 1 dX9_move_47 rfl ?_
      refine xj_iload_n F 2 dX9_move_48 rfl ?_
      refine xj_iload_n F 3 dX9_move_49 rfl ?_
      refine xj_callVV (b := q0) (As := [.int x1, .int x2, .int x3]) (d' := 0) F hq0 lmX9_290 rfl rfl (Nat.le_of_ble_eq_true rfl) (xfit (Nat.le_trans (Nat.le_of_ble_eq_true rfl) hdep)) dX9_move_50 (fun hT z hz => wX9_remembers (xnd F) (Nat.le_refl _) hT (a0 := q0) (a1 := x1) (a2 := x2) (a3 := x3) hq0 z hz) (fun m3 => ?_)
      refine xj_aload_n F 0 dX9_move_53 rfl ?_
      refine xj_iload_n F 1 dX9_move_54 rfl ?_
      refine xj_iload_n F 2 dX9_move_55 rfl ?_
      refine xj_iload_n F 3 dX9_move_56 rfl ?_
      refine xj_callVV (b := q0) (As := [.int x1, .int x2, .int x3]) (d' := 0) F hq0 lmX9_294 rfl rfl (Nat.le_of_ble_eq_true rfl) (xfit (Nat.le_trans (Nat.le_of_ble_eq_true rfl) hdep)) dX9_move_57 (fun hT z hz => wX9_shifts (xnd F) (Nat.le_refl _) hT (a0 := q0) (a1 := x1) (a2 := x2) (a3 := x3) hq0 z hz) (fun m4 => ?_)
      refine xj_iconst F 1 dX9_move_60 (by decide) ?_
      exact xj_ret F rfl dX9_move_61
    · refine xj_iconst F 0 dX9_move_44 (by decide) ?_
      exact xj_ret F rfl dX9_move_45
  · refine xj_iconst F 0 dX9_move_37 (by decide) ?_
    exact xj_ret F rfl dX9_move_38
set_option maxRecDepth 20000 in
set_option maxHeartbeats 4000000 in
theorem jX9_move_24 {G : XG} {l : Launch} {d : Nat} {X : XX} (F : xF (xE G d) G X mX9_move) (hdep : 3 ≤ d) : ∀ (q0 : Nat) (x1 : Int32) (x2 : Int32) (x3 : Int32) (p0 : Nat) (m0 : XM), isa G q0 9 → isa G p0 9 → xJ (xE G d) (xQ xrI G X mX9_move) G l X mX9_move 24 [(0, .ref (xad G q0)), (1, .int x1), (2, .int x2), (3, .int x3)] [.ref (xad G p0)] m0 (fX9_move_24 (xln G) q0 x1 x2 x3 p0 m0) := by
  intro q0 x1 x2 x3 p0 m0 hq0 hp0
  unfold fX9_move_24
  refine xj_iconst F 1 dX9_move_24 (by decide) ?_
  refine xj_goto (tgt := 29) F dX9_move_25 (by decide) ?_
  exact jX9_move_29 F hdep q0 x1 x2 x3 p0 1 m0 hq0 hp0
set_option maxRecDepth 20000 in
set_option maxHeartbeats 4000000 in
theorem wX9_move {G : XG} {l : Launch} {d : Nat} (hn : xN G) (hdep : 3 ≤ d) {m0 : XM} (hT : xT G m0) {a0 : Nat} {a1 : Int32} {a2 : Int32} {a3 : Int32} (ha0 : isa G a0 9) : ∀ z, fX9_move (xln G) a0 a1 a2 a3 m0 = some z → xMet G l mX9_move d [.ref (xad G a0), .int a1, .int a2, .int a3] m0 (xrI z) := by
  refine xMet_of (by decide +kernel) hn hT (Nat.le_of_ble_eq_true rfl) (fun X F => ?_)
  refine xj_sub (lv' := [(0, .ref (xad G a0)), (1, .int a1), (2, .int a2), (3, .int a3)]) [0, 1, 2, 3] rfl ?_
  unfold fX9_move
  refine xj_aload_n F 0 dX9_move_0 rfl ?_
  refine xj_iconst F 0 dX9_move_1 (by decide) ?_
  refine xj_put F ha0 lpX9_91 dX9_move_2 (fun m1 => ?_)
  refine xj_aload_n F 0 dX9_move_5 rfl ?_
  refine xj_aload_n F 0 dX9_move_6 rfl ?_
  refine xj_iload_n F 1 dX9_move_7 rfl ?_
  refine xj_iload_n F 2 dX9_move_8 rfl ?_
  refine xj_callVI (b := a0) (As := [.int a1, .int a2]) (d' := 2) F ha0 lmX9_286 rfl rfl (Nat.le_of_ble_eq_true rfl) (xfit (Nat.le_trans (Nat.le_of_ble_eq_true rfl) hdep)) dX9_move_9 (fun hT z hz => wX9_isMember (xnd F) (Nat.le_refl _) hT (a0 := a0) (a1 := a1) (a2 := a2) ha0 z hz) (fun v3 m2 => ?_)
  refine xj_if_eq (tgt := 24) F dX9_move_12 (by decide) ?_ ?_
  · exact jX9_move_24 F hdep a0 a1 a2 a3 a0 m2 ha0 ha0
  · refine xj_aload_n F 0 dX9_move_15 rfl ?_
    refine xj_iload_n F 1 dX9_move_16 rfl ?_
    refine xj_iload_n F 3 dX9_move_17 rfl ?_
    refine xj_callVI (b := a0) (As := [.int a1, .int a3]) (d' := 2) F ha0 lmX9_286 rfl rfl (Nat.le_of_ble_eq_true rfl) (xfit (Nat.le_trans (Nat.le_of_ble_eq_true rfl) hdep)) dX9_move_18 (fun hT z hz => wX9_isMember (xnd F) (Nat.le_refl _) hT (a0 := a0) (a1 := a1) (a2 := a3) ha0 z hz) (fun v5 m4 => ?_)
    refine xj_if_ne (tgt := 28) F dX9_move_21 (by decide) ?_ ?_
    · refine xj_iconst F 0 dX9_move_28 (by decide) ?_
      exact jX9_move_29 F hdep a0 a1 a2 a3 a0 0 m4 ha0 ha0
    · exact jX9_move_24 F hdep a0 a1 a2 a3 a0 m4 ha0 ha0
set_option maxRecDepth 20000 in
set_option maxHeartbeats 4000000 in
theorem jX9_turn_66 {G : XG} {l : Launch} {d : Nat} {X : XX} (F : xF (xE G d) G X mX9_turn) (hdep : 3 ≤ d) : ∀ (q0 : Nat) (x3 : Int32) (p0 : Nat) (s1 : Int32) (s2 : Int32) (m0 : XM), isa G q0 9 → isa G p0 12 → xJ (xE G d) (xQ xrI G X mX9_turn) G l X mX9_turn 66 [(0, .ref (xad G q0)), (3, .int x3)] [.int s2, .int s1, .ref (xad G p0)] m0 (fX9_turn_66 (xln G) q0 x3 p0 s1 s2 m0) := by
  intro q0 x3 p0 s1 s2 m0 hq0 hp0
  unfold fX9_turn_66
  refine xj_zast F hp0 dX9_turn_66 (fun m1 => ?_)
  refine xj_aload_n F 0 dX9_turn_67 rfl ?_
  refine xj_getR F hq0 lgX9_26 dX9_turn_68 (fun u2 hu2 => ?_)
  refine xj_iload_n F 1 dX9_turn_71 rfl ?_
  refine xj_zald F hu2 dX9_turn_72 (fun v3 => ?_)
  refine xj_if_eq (tgt := 80) F dX9_turn_73 (by decide) ?_ ?_
  · refine xj_iconst F 1 dX9_turn_80 (by decide) ?_
    exact xj_ret F rfl dX9_turn_81
  · refine xj_iconst F 0 dX9_turn_76 (by decide) ?_
    refine xj_goto (tgt := 81) F dX9_turn_77 (by decide) ?_
    exact xj_ret F rfl dX9_turn_81
set_option maxRecDepth 20000 in
set_option maxHeartbeats 4000000 in
theorem jX9_turn_20 {G : XG} {l : Launch} {d : Nat} {X : XX} (F : xF (xE G d) G X mX9_turn) (hdep : 3 ≤ d) : ∀ (q0 : Nat) (x1 : Int32) (x2 : Int32) (p0 : Nat) (s1 : Int32) (m0 : XM), isa G q0 9 → isa G p0 9 → xJ (xE G d) (xQ xrI G X mX9_turn) G l X mX9_turn 20 [(0, .ref (xad G q0)), (1, .int x1), (2, .int x2)] [.int s1, .ref (xad G p0)] m0 (fX9_turn_20 (xln G) q0 x1 x2 p0 s1 m0) := by
  intro q0 x1 x2 p0 s1 m0 hq0 hp0
  unfold fX9_turn_20
  refine xj_iconst F 1 dX9_turn_20 (by decide) ?_
  refine xj_iconst F 0 dX9_turn_21 (by decide) ?_
  refine xj_callVI (b := p0) (As := [.int s1, .int 1, .int 0]) (d' := 0) F hp0 lmX9_257 rfl rfl (Nat.le_of_ble_eq_true rfl) (xfit (Nat.le_trans (Nat.le_of_ble_eq_true rfl) hdep)) dX9_turn_22 (fun hT z hz => wX9_bad (xnd F) (Nat.le_refl _) hT (a0 := p0) (a1 := s1) (a2 := 1) (a3 := 0) hp0 z hz) (fun v2 m1 => ?_)
  refine xj_if_eq (tgt := 30) F dX9_turn_25 (by decide) ?_ ?_
  · refine xj_aload_n F 0 dX9_turn_30 rfl ?_
    refine xj_getR F hq0 lgX9_20 dX9_turn_31 (fun u3 hu3 => ?_)
    refine xj_iload_n F 1 dX9_turn_34 rfl ?_
    refine xj_iload_n F 2 dX9_turn_35 rfl ?_
    refine xj_callSI (As := [.ref (xad G u3), .int x1, .int x2]) (d' := 0) F lmX9_101 rfl rfl (Nat.le_of_ble_eq_true rfl) (xfit (Nat.le_trans (Nat.le_of_ble_eq_true rfl) hdep)) dX9_turn_36 (fun hT z hz => wX9_memberAt (xnd F) (Nat.le_refl _) hT (a0 := u3) (a1 := x1) (a2 := x2) hu3 z hz) (fun v5 m4 => ?_)
    refine xj_istore_n (lv' := [(3, .int v5), (0, .ref (xad G q0)), (1, .int x1), (2, .int x2)]) F dX9_turn_39 (by decide) rfl ?_
    refine xj_aload_n F 1 dX9_turn_40 rfl ?_
    refine xj_iload_n F 2 dX9_turn_41 rfl ?_
    refine xj_iload_n F 0 dX9_turn_42 rfl ?_
    refine xj_iconst F (-1) dX9_turn_43 (by decide) ?_
    refine xj_callVV (b := q0) (As := [.int x1, .int v5, .int (-1)]) (d' := 0) F hq0 lmX9_290 rfl rfl (Nat.le_of_ble_eq_true rfl) (xfit (Nat.le_trans (Nat.le_of_ble_eq_true rfl) hdep)) dX9_turn_44 (fun hT z hz => wX9_remembers (xnd F) (Nat.le_refl _) hT (a0 := q0) (a1 := x1) (a2 := v5) (a3 := (-1)) hq0 z hz) (fun m6 => ?_)
    refine xj_aload_n F 1 dX9_turn_47 rfl ?_
    refine xj_getR F hq0 lgX9_26 dX9_turn_48 (fun u7 hu7 => ?_)
    refine xj_iload_n F 0 dX9_turn_51 rfl ?_
    refine xj_aload_n F 1 dX9_turn_52 rfl ?_
    refine xj_getR F hq0 lgX9_26 dX9_turn_53 (fun u8 hu8 => ?_)
    refine xj_iload_n F 0 dX9_turn_56 rfl ?_
    refine xj_zald F hu8 dX9_turn_57 (fun v9 => ?_)
    refine xj_if_ne (tgt := 65) F dX9_turn_58 (by decide) ?_ ?_
    · refine xj_iconst F 0 dX9_turn_65 (by decide) ?_
      refine xj_sub (lv' := [(0, .ref (xad G q0)), (3, .int v5)]) [1, 0] rfl ?_
      exact jX9_turn_66 F hdep q0 v5 u7 v5 0 m6 hq0 hu7
    · refine xj_iconst F 1 dX9_turn_61 (by decide) ?_
      refine xj_goto (tgt := 66) F dX9_turn_62 (by decide) ?_
      refine xj_sub (lv' := [(0, .ref (xad G q0)), (3, .int v5)]) [1, 0] rfl ?_
      exact jX9_turn_66 F hdep q0 v5 u7 v5 1 m6 hq0 hu7
  · refine xj_iconst F 0 dX9_turn_28 (by decide) ?_
    exact xj_ret F rfl dX9_turn_29
set_option maxRecDepth 20000 in
set_option maxHeartbeats 4000000 in
theorem wX9_turn {G : XG} {l : Launch} {d : Nat} (hn : xN G) (hdep : 3 ≤ d) {m0 : XM} (hT : xT G m0) {a0 : Nat} {a1 : Int32} {a2 : Int32} (ha0 : isa G a0 9) : ∀ z, fX9_turn (xln G) a0 a1 a2 m0 = some z → xMet G l mX9_turn d [.ref (xad G a0), .int a1, .int a2] m0 (xrI z) := by
  refine xMet_of (by decide +kernel) hn hT (Nat.le_of_ble_eq_true rfl) (fun X F => ?_)
  refine xj_sub (lv' := [(0, .ref (xad G a0)), (1, .int a1), (2, .int a2)]) [0, 1, 2] rfl ?_
  unfold fX9_turn
  refine xj_aload_n F 0 dX9_turn_0 rfl ?_
  refine xj_iconst F 0 dX9_turn_1 (by decide) ?_
  refine xj_put F ha0 lpX9_91 dX9_turn_2 (fun m1 => ?_)
  refine xj_aload_n F 0 dX9_turn_5 rfl ?_
  refine xj_aload_n F 0 dX9_turn_6 rfl ?_
  refine xj_iload_n F 1 dX9_turn_7 rfl ?_
  refine xj_iload_n F 2 dX9_turn_8 rfl ?_
  refine xj_callVI (b := a0) (As := [.int a1, .int a2]) (d' := 2) F ha0 lmX9_286 rfl rfl (Nat.le_of_ble_eq_true rfl) (xfit (Nat.le_trans (Nat.le_of_ble_eq_true rfl) hdep)) dX9_turn_9 (fun hT z hz => wX9_isMember (xnd F) (Nat.le_refl _) hT (a0 := a0) (a1 := a1) (a2 := a2) ha0 z hz) (fun v3 m2 => ?_)
  refine xj_if_ne (tgt := 19) F dX9_turn_12 (by decide) ?_ ?_
  · refine xj_iconst F 0 dX9_turn_19 (by decide) ?_
    exact jX9_turn_20 F hdep a0 a1 a2 a0 0 m2 ha0 ha0
  · refine xj_iconst F 1 dX9_turn_15 (by decide) ?_
    refine xj_goto (tgt := 20) F dX9_turn_16 (by decide) ?_
    exact jX9_turn_20 F hdep a0 a1 a2 a0 1 m2 ha0 ha0
set_option maxRecDepth 20000 in
set_option maxHeartbeats 4000000 in
theorem jX9_undo_77 {G : XG} {l : Launch} {d : Nat} {X : XX} (F : xF (xE G d) G X mX9_undo) (hdep : 1 ≤ d) : ∀ (q0 : Nat) (p0 : Nat) (s1 : Int32) (s2 : Int32) (m0 : XM), isa G q0 9 → isa G p0 12 → xJ (xE G d) (xQ xrI G X mX9_undo) G l X mX9_undo 77 [(0, .ref (xad G q0))] [.int s2, .int s1, .ref (xad G p0)] m0 (fX9_undo_77 (xln G) q0 p0 s1 s2 m0) := by
  intro q0 p0 s1 s2 m0 hq0 hp0
  unfold fX9_undo_77
  refine xj_zast F hp0 dX9_undo_77 (fun m1 => ?_)
  refine xj_goto (tgt := 112) F dX9_undo_78 (by decide) ?_
  refine xj_aload_n F 0 dX9_undo_112 rfl ?_
  refine xj_get F hq0 lgX9_276 dX9_undo_113 (fun v2 => ?_)
  exact xj_ret F rfl dX9_undo_116
set_option maxRecDepth 20000 in
set_option maxHeartbeats 4000000 in
theorem wX9_undo {G : XG} {l : Launch} {d : Nat} (hn : xN G) (hdep : 1 ≤ d) {m0 : XM} (hT : xT G m0) {a0 : Nat} (ha0 : isa G a0 9) : ∀ z, fX9_undo (xln G) a0 m0 = some z → xMet G l mX9_undo d [.ref (xad G a0)] m0 (xrI z) := by
  refine xMet_of (by decide +kernel) hn hT (Nat.le_of_ble_eq_true rfl) (fun X F => ?_)
  refine xj_sub (lv' := [(0, .ref (xad G a0))]) [0] rfl ?_
  unfold fX9_undo
  refine xj_aload_n F 0 dX9_undo_0 rfl ?_
  refine xj_iconst F 0 dX9_undo_1 (by decide) ?_
  refine xj_put F ha0 lpX9_91 dX9_undo_2 (fun m1 => ?_)
  refine xj_aload_n F 0 dX9_undo_5 rfl ?_
  refine xj_get F ha0 lgX9_276 dX9_undo_6 (fun v2 => ?_)
  refine xj_if_ne (tgt := 14) F dX9_undo_9 (by decide) ?_ ?_
  · refine xj_aload_n F 0 dX9_undo_14 rfl ?_
    refine xj_dup F dX9_undo_15 rfl ?_
    refine xj_get F ha0 lgX9_276 dX9_undo_16 (fun v3 => ?_)
    refine xj_iconst F 1 dX9_undo_19 (by decide) ?_
    refine xj_isub F dX9_undo_20 (fun v4 => ?_)
    refine xj_put F ha0 lpX9_276 dX9_undo_21 (fun m5 => ?_)
    refine xj_aload_n F 0 dX9_undo_24 rfl ?_
    refine xj_iconst F 0 dX9_undo_25 (by decide) ?_
    refine xj_putZ F ha0 lpX9_279 rfl rfl dX9_undo_26 (fun m6 => ?_)
    refine xj_aload_n F 0 dX9_undo_29 rfl ?_
    refine xj_getR F ha0 lgX9_36 dX9_undo_30 (fun u7 hu7 => ?_)
    refine xj_aload_n F 0 dX9_undo_33 rfl ?_
    refine xj_get F ha0 lgX9_276 dX9_undo_34 (fun v8 => ?_)
    refine xj_iald F hu7 dX9_undo_37 (fun v9 => ?_)
    refine xj_iconst F (-1) dX9_undo_38 (by decide) ?_
    refine xj_icmp_ne (tgt := 81) F dX9_undo_39 (by decide) ?_ ?_
    · refine xj_aload_n F 0 dX9_undo_81 rfl ?_
      refine xj_aload_n F 0 dX9_undo_82 rfl ?_
      refine xj_getR F ha0 lgX9_30 dX9_undo_83 (fun u10 hu10 => ?_)
      refine xj_aload_n F 0 dX9_undo_86 rfl ?_
      refine xj_get F ha0 lgX9_276 dX9_undo_87 (fun v11 => ?_)
      refine xj_iald F hu10 dX9_undo_90 (fun v12 => ?_)
      refine xj_aload_n F 0 dX9_undo_91 rfl ?_
      refine xj_getR F ha0 lgX9_36 dX9_undo_92 (fun u13 hu13 => ?_)
      refine xj_aload_n F 0 dX9_undo_95 rfl ?_
      refine xj_get F ha0 lgX9_276 dX9_undo_96 (fun v14 => ?_)
      refine xj_iald F hu13 dX9_undo_99 (fun v15 => ?_)
      refine xj_aload_n F 0 dX9_undo_100 rfl ?_
      refine xj_getR F ha0 lgX9_33 dX9_undo_101 (fun u16 hu16 => ?_)
      refine xj_aload_n F 0 dX9_undo_104 rfl ?_
      refine xj_get F ha0 lgX9_276 dX9_undo_105 (fun v17 => ?_)
      refine xj_iald F hu16 dX9_undo_108 (fun v18 => ?_)
      refine xj_callVV (b := a0) (As := [.int v12, .int v15, .int v18]) (d' := 0) F ha0 lmX9_294 rfl rfl (Nat.le_of_ble_eq_true rfl) (xfit (Nat.le_trans (Nat.le_of_ble_eq_true rfl) hdep)) dX9_undo_109 (fun hT z hz => wX9_shifts (xnd F) (Nat.le_refl _) hT (a0 := a0) (a1 := v12) (a2 := v15) (a3 := v18) ha0 z hz) (fun m19 => ?_)
      refine xj_aload_n F 0 dX9_undo_112 rfl ?_
      refine xj_get F ha0 lgX9_276 dX9_undo_113 (fun v20 => ?_)
      exact xj_ret F rfl dX9_undo_116
    · refine xj_aload_n F 0 dX9_undo_42 rfl ?_
      refine xj_getR F ha0 lgX9_26 dX9_undo_43 (fun u21 hu21 => ?_)
      refine xj_aload_n F 0 dX9_undo_46 rfl ?_
      refine xj_getR F ha0 lgX9_33 dX9_undo_47 (fun u22 hu22 => ?_)
      refine xj_aload_n F 0 dX9_undo_50 rfl ?_
      refine xj_get F ha0 lgX9_276 dX9_undo_51 (fun v23 => ?_)
      refine xj_iald F hu22 dX9_undo_54 (fun v24 => ?_)
      refine xj_aload_n F 0 dX9_undo_55 rfl ?_
      refine xj_getR F ha0 lgX9_26 dX9_undo_56 (fun u25 hu25 => ?_)
      refine xj_aload_n F 0 dX9_undo_59 rfl ?_
      refine xj_getR F ha0 lgX9_33 dX9_undo_60 (fun u26 hu26 => ?_)
      refine xj_aload_n F 0 dX9_undo_63 rfl ?_
      refine xj_get F ha0 lgX9_276 dX9_undo_64 (fun v27 => ?_)
      refine xj_iald F hu26 dX9_undo_67 (fun v28 => ?_)
      refine xj_zald F hu25 dX9_undo_68 (fun v29 => ?_)
      refine xj_if_ne (tgt := 76) F dX9_undo_69 (by decide) ?_ ?_
      · refine xj_iconst F 0 dX9_undo_76 (by decide) ?_
        exact jX9_undo_77 F hdep a0 u21 v24 0 m6 ha0 hu21
      · refine xj_iconst F 1 dX9_undo_72 (by decide) ?_
        refine xj_goto (tgt := 77) F dX9_undo_73 (by decide) ?_
        exact jX9_undo_77 F hdep a0 u21 v24 1 m6 ha0 hu21
  · refine xj_iconst F (-1) dX9_undo_12 (by decide) ?_
    exact xj_ret F rfl dX9_undo_13
set_option maxRecDepth 20000 in
set_option maxHeartbeats 4000000 in
theorem jX9_works_28 {G : XG} {l : Launch} {d : Nat} {X : XX} (F : xF (xE G d) G X mX9_works) (hdep : 0 ≤ d) : ∀ (q0 : Nat) (m0 : XM), isa G q0 9 → xJ (xE G d) (xQ xrI G X mX9_works) G l X mX9_works 28 [(0, .ref (xad G q0))] [] m0 (fX9_works_28 (xln G) q0 m0) := by
  intro q0 m0 hq0
  unfold fX9_works_28
  refine xj_aload_n F 0 dX9_works_28 rfl ?_
  refine xj_get F hq0 lgX9_300 dX9_works_29 (fun v1 => ?_)
  refine xj_if_ne (tgt := 39) F dX9_works_32 (by decide) ?_ ?_
  · refine xj_iconst F 0 dX9_works_39 (by decide) ?_
    exact xj_retZ F rfl rfl dX9_works_40
  · refine xj_iconst F 1 dX9_works_35 (by decide) ?_
    refine xj_goto (tgt := 40) F dX9_works_36 (by decide) ?_
    exact xj_retZ F rfl rfl dX9_works_40
set_option maxRecDepth 20000 in
set_option maxHeartbeats 4000000 in
theorem wX9_works {G : XG} {l : Launch} {d : Nat} (hn : xN G) (hdep : 0 ≤ d) {m0 : XM} (hT : xT G m0) {a0 : Nat} (ha0 : isa G a0 9) : ∀ z, fX9_works (xln G) a0 m0 = some z → xMet G l mX9_works d [.ref (xad G a0)] m0 (xrI z) := by
  refine xMet_of (by decide +kernel) hn hT (Nat.le_of_ble_eq_true rfl) (fun X F => ?_)
  refine xj_sub (lv' := [(0, .ref (xad G a0))]) [0] rfl ?_
  unfold fX9_works
  refine xj_aload_n F 0 dX9_works_0 rfl ?_
  refine xj_get F ha0 lgX9_297 dX9_works_1 (fun v1 => ?_)
  refine xj_sipush F 3000 dX9_works_4 (by decide) ?_
  refine xj_icmp_ne (tgt := 18) F dX9_works_7 (by decide) ?_ ?_
  · refine xj_aload_n F 0 dX9_works_18 rfl ?_
    refine xj_dup F dX9_works_19 rfl ?_
    refine xj_get F ha0 lgX9_297 dX9_works_20 (fun v2 => ?_)
    refine xj_iconst F 1 dX9_works_23 (by decide) ?_
    refine xj_iadd F dX9_works_24 (fun v3 => ?_)
    refine xj_put F ha0 lpX9_297 dX9_works_25 (fun m4 => ?_)
    exact jX9_works_28 F hdep a0 m4 ha0
  · refine xj_aload_n F 0 dX9_works_10 rfl ?_
    refine xj_iconst F 2 dX9_works_11 (by decide) ?_
    refine xj_put F ha0 lpX9_300 dX9_works_12 (fun m5 => ?_)
    refine xj_goto (tgt := 28) F dX9_works_15 (by decide) ?_
    exact jX9_works_28 F hdep a0 m5 ha0
set_option maxRecDepth 20000 in
set_option maxHeartbeats 4000000 in
theorem wX9_opens {G : XG} {l : Launch} {d : Nat} (hn : xN G) (hdep : 0 ≤ d) {m0 : XM} (hT : xT G m0) {a0 : Nat} {a1 : Int32} {a2 : Int32} (ha0 : isa G a0 9) : ∀ z, fX9_opens (xln G) a0 a1 a2 m0 = some z → xMet G l mX9_opens d [.ref (xad G a0), .int a1, .int a2] m0 (xrI z) := by
  refine xMet_of (by decide +kernel) hn hT (Nat.le_of_ble_eq_true rfl) (fun X F => ?_)
  refine xj_sub (lv' := [(0, .ref (xad G a0)), (1, .int a1), (2, .int a2)]) [0, 1, 2] rfl ?_
  unfold fX9_opens
  refine xj_aload_n F 0 dX9_opens_0 rfl ?_
  refine xj_get F ha0 lgX9_303 dX9_opens_1 (fun v1 => ?_)
  refine xj_bipush F 20 dX9_opens_4 (by decide) ?_
  refine xj_icmp_ne (tgt := 16) F dX9_opens_6 (by decide) ?_ ?_
  · refine xj_aload_n F 0 dX9_opens_16 rfl ?_
    refine xj_getR F ha0 lgX9_57 dX9_opens_17 (fun u2 hu2 => ?_)
    refine xj_aload_n F 0 dX9_opens_20 rfl ?_
    refine xj_get F ha0 lgX9_303 dX9_opens_21 (fun v3 => ?_)
    refine xj_iload_n F 1 dX9_opens_24 rfl ?_
    refine xj_iast F hu2 dX9_opens_25 (fun m4 => ?_)
    refine xj_aload_n F 0 dX9_opens_26 rfl ?_
    refine xj_getR F ha0 lgX9_60 dX9_opens_27 (fun u5 hu5 => ?_)
    refine xj_aload_n F 0 dX9_opens_30 rfl ?_
    refine xj_get F ha0 lgX9_303 dX9_opens_31 (fun v6 => ?_)
    refine xj_iload_n F 2 dX9_opens_34 rfl ?_
    refine xj_iast F hu5 dX9_opens_35 (fun m7 => ?_)
    refine xj_aload_n F 0 dX9_opens_36 rfl ?_
    refine xj_dup F dX9_opens_37 rfl ?_
    refine xj_get F ha0 lgX9_303 dX9_opens_38 (fun v8 => ?_)
    refine xj_iconst F 1 dX9_opens_41 (by decide) ?_
    refine xj_iadd F dX9_opens_42 (fun v9 => ?_)
    refine xj_put F ha0 lpX9_303 dX9_opens_43 (fun m10 => ?_)
    refine xj_iconst F 1 dX9_opens_46 (by decide) ?_
    exact xj_retZ F rfl rfl dX9_opens_47
  · refine xj_aload_n F 0 dX9_opens_9 rfl ?_
    refine xj_iconst F 2 dX9_opens_10 (by decide) ?_
    refine xj_put F ha0 lpX9_300 dX9_opens_11 (fun m11 => ?_)
    refine xj_iconst F 0 dX9_opens_14 (by decide) ?_
    exact xj_retZ F rfl rfl dX9_opens_15
set_option maxRecDepth 20000 in
set_option maxHeartbeats 4000000 in
theorem wX9_fails {G : XG} {l : Launch} {d : Nat} (hn : xN G) (hdep : 0 ≤ d) {m0 : XM} (hT : xT G m0) {a0 : Nat} {a1 : Int32} {a2 : Int32} (ha0 : isa G a0 9) : ∀ z, fX9_fails (xln G) a0 a1 a2 m0 = some z → xMet G l mX9_fails d [.ref (xad G a0), .int a1, .int a2] m0 (xrV z) := by
  refine xMet_of (by decide +kernel) hn hT (Nat.le_of_ble_eq_true rfl) (fun X F => ?_)
  refine xj_sub (lv' := [(0, .ref (xad G a0)), (1, .int a1), (2, .int a2)]) [0, 1, 2] rfl ?_
  unfold fX9_fails
  refine xj_aload_n F 0 dX9_fails_0 rfl ?_
  refine xj_iconst F 1 dX9_fails_1 (by decide) ?_
  refine xj_put F ha0 lpX9_300 dX9_fails_2 (fun m1 => ?_)
  refine xj_aload_n F 0 dX9_fails_5 rfl ?_
  refine xj_iload_n F 1 dX9_fails_6 rfl ?_
  refine xj_put F ha0 lpX9_306 dX9_fails_7 (fun m2 => ?_)
  refine xj_aload_n F 0 dX9_fails_10 rfl ?_
  refine xj_iload_n F 2 dX9_fails_11 rfl ?_
  refine xj_put F ha0 lpX9_309 dX9_fails_12 (fun m3 => ?_)
  refine xj_aload_n F 0 dX9_fails_15 rfl ?_
  refine xj_iconst F 0 dX9_fails_16 (by decide) ?_
  refine xj_put F ha0 lpX9_312 dX9_fails_17 (fun m4 => ?_)
  exact xj_retV F rfl dX9_fails_20
set_option maxRecDepth 20000 in
set_option maxHeartbeats 4000000 in
theorem jX9_isEarly_36 {G : XG} {l : Launch} {d : Nat} {X : XX} (F : xF (xE G d) G X mX9_isEarly) (hdep : 1 ≤ d) : ∀ (m0 : XM), xJ (xE G d) (xQ xrI G X mX9_isEarly) G l X mX9_isEarly 36 [] [] m0 (fX9_isEarly_36 (xln G)  m0) := by
  intro m0
  unfold fX9_isEarly_36
  refine xj_iconst F 0 dX9_isEarly_36 (by decide) ?_
  exact xj_retZ F rfl rfl dX9_isEarly_37
set_option maxRecDepth 20000 in
set_option maxHeartbeats 4000000 in
theorem wX9_isEarly {G : XG} {l : Launch} {d : Nat} (hn : xN G) (hdep : 1 ≤ d) {m0 : XM} (hT : xT G m0) {a0 : Nat} {a1 : Int32} {a2 : Int32} (ha0 : isa G a0 9) : ∀ z, fX9_isEarly (xln G) a0 a1 a2 m0 = some z → xMet G l mX9_isEarly d [.ref (xad G a0), .int a1, .int a2] m0 (xrI z) := by
  refine xMet_of (by decide +kernel) hn hT (Nat.le_of_ble_eq_true rfl) (fun X F => ?_)
  refine xj_sub (lv' := [(0, .ref (xad G a0)), (1, .int a1), (2, .int a2)]) [0, 1, 2] rfl ?_
  unfold fX9_isEarly
  refine xj_aload_n F 0 dX9_isEarly_0 rfl ?_
  refine xj_getR F ha0 lgX9_20 dX9_isEarly_1 (fun u1 hu1 => ?_)
  refine xj_iload_n F 2 dX9_isEarly_4 rfl ?_
  refine xj_iconst F 2 dX9_isEarly_5 (by decide) ?_
  refine xj_callSI (As := [.ref (xad G u1), .int a2, .int 2]) (d' := 0) F lmX9_104 rfl rfl (Nat.le_of_ble_eq_true rfl) (xfit (Nat.le_trans (Nat.le_of_ble_eq_true rfl) hdep)) dX9_isEarly_6 (fun hT z hz => wX9_ofMember (xnd F) (Nat.le_refl _) hT (a0 := u1) (a1 := a2) (a2 := 2) hu1 z hz) (fun v3 m2 => ?_)
  refine xj_iconst F (-1) dX9_isEarly_9 (by decide) ?_
  refine xj_icmp_eq (tgt := 36) F dX9_isEarly_10 (by decide) ?_ ?_
  · refine xj_sub (lv' := []) [] rfl ?_
    exact jX9_isEarly_36 F hdep m2
  · refine xj_aload_n F 0 dX9_isEarly_13 rfl ?_
    refine xj_getR F ha0 lgX9_63 dX9_isEarly_14 (fun u4 hu4 => ?_)
    refine xj_iload_n F 2 dX9_isEarly_17 rfl ?_
    refine xj_zald F hu4 dX9_isEarly_18 (fun v5 => ?_)
    refine xj_if_ne (tgt := 36) F dX9_isEarly_19 (by decide) ?_ ?_
    · refine xj_sub (lv' := []) [] rfl ?_
      exact jX9_isEarly_36 F hdep m2
    · refine xj_aload_n F 0 dX9_isEarly_22 rfl ?_
      refine xj_getR F ha0 lgX9_39 dX9_isEarly_23 (fun u6 hu6 => ?_)
      refine xj_iload_n F 1 dX9_isEarly_26 rfl ?_
      refine xj_iald F hu6 dX9_isEarly_27 (fun v7 => ?_)
      refine xj_iconst F 1 dX9_isEarly_28 (by decide) ?_
      refine xj_icmp_ne (tgt := 36) F dX9_isEarly_29 (by decide) ?_ ?_
      · refine xj_sub (lv' := []) [] rfl ?_
        exact jX9_isEarly_36 F hdep m2
      · refine xj_iconst F 1 dX9_isEarly_32 (by decide) ?_
        refine xj_goto (tgt := 37) F dX9_isEarly_33 (by decide) ?_
        exact xj_retZ F rfl rfl dX9_isEarly_37
set_option maxRecDepth 20000 in
set_option maxHeartbeats 4000000 in
theorem jX9_notes_151 {G : XG} {l : Launch} {d : Nat} {X : XX} (F : xF (xE G d) G X mX9_notes) (hdep : 1 ≤ d) : ∀ (q0 : Nat) (m0 : XM), isa G q0 9 → xJ (xE G d) (xQ xrV G X mX9_notes) G l X mX9_notes 151 [(0, .ref (xad G q0))] [] m0 (fX9_notes_151 (xln G) q0 m0) := by
  intro q0 m0 hq0
  unfold fX9_notes_151
  refine xj_aload_n F 0 dX9_notes_151 rfl ?_
  refine xj_dup F dX9_notes_152 rfl ?_
  refine xj_get F hq0 lgX9_358 dX9_notes_153 (fun v1 => ?_)
  refine xj_iconst F 1 dX9_notes_156 (by decide) ?_
  refine xj_iadd F dX9_notes_157 (fun v2 => ?_)
  refine xj_put F hq0 lpX9_358 dX9_notes_158 (fun m3 => ?_)
  exact xj_retV F rfl dX9_notes_161
set_option maxRecDepth 20000 in
set_option maxHeartbeats 4000000 in
theorem jX9_notes_92 {G : XG} {l : Launch} {d : Nat} {X : XX} (F : xF (xE G d) G X mX9_notes) (hdep : 1 ≤ d) : ∀ (n : Nat) (q0 : Nat) (x4 : Int32) (m0 : XM), isa G q0 9 → xJ (xE G d) (xQ xrV G X mX9_notes) G l X mX9_notes 92 [(0, .ref (xad G q0)), (4, .int x4)] [] m0 (fX9_notes_92 (xln G) n q0 x4 m0) := by
  intro n
  induction n with
  | zero => intro q0 x4 m0 hq0; exact xj_none
  | succ n hr92 =>
    intro q0 x4 m0 hq0
    unfold fX9_notes_92
    generalize hrg92 : (fun q0 x4 m0 => fX9_notes_92 (xln G) n q0 x4 m0) = r92
    have hr92 : ∀ (q0 : Nat) (x4 : Int32) (m0 : XM), isa G q0 9 → xJ (xE G d) (xQ xrV G X mX9_notes) G l X mX9_notes 92 [(0, .ref (xad G q0)), (4, .int x4)] [] m0 (r92 q0 x4 m0) := by
      subst hrg92
      exact hr92
    clear hrg92
    refine xj_eq (xv_eq _ _) ?_
    refine xj_iload F 1 dX9_notes_92 rfl ?_
    refine xj_aload_n F 0 dX9_notes_94 rfl ?_
    refine xj_get F hq0 lgX9_303 dX9_notes_95 (fun v1 => ?_)
    refine xj_icmp_ge (tgt := 151) F dX9_notes_98 (by decide) ?_ ?_
    · refine xj_sub (lv' := [(0, .ref (xad G q0))]) [0] rfl ?_
      exact jX9_notes_151 F hdep q0 m0 hq0
    · refine xj_aload_n F 0 dX9_notes_101 rfl ?_
      refine xj_getR F hq0 lgX9_70 dX9_notes_102 (fun u2 hu2 => ?_)
      refine xj_bipush F 20 dX9_notes_105 (by decide) ?_
      refine xj_aload_n F 0 dX9_notes_107 rfl ?_
      refine xj_get F hq0 lgX9_358 dX9_notes_108 (fun v3 => ?_)
      refine xj_imul F dX9_notes_111 (fun v4 => ?_)
      refine xj_iload F 1 dX9_notes_112 rfl ?_
      refine xj_iadd F dX9_notes_114 (fun v5 => ?_)
      refine xj_aload_n F 0 dX9_notes_115 rfl ?_
      refine xj_getR F hq0 lgX9_57 dX9_notes_116 (fun u6 hu6 => ?_)
      refine xj_iload F 1 dX9_notes_119 rfl ?_
      refine xj_iald F hu6 dX9_notes_121 (fun v7 => ?_)
      refine xj_iast F hu2 dX9_notes_122 (fun m8 => ?_)
      refine xj_aload_n F 0 dX9_notes_123 rfl ?_
      refine xj_getR F hq0 lgX9_73 dX9_notes_124 (fun u9 hu9 => ?_)
      refine xj_bipush F 20 dX9_notes_127 (by decide) ?_
      refine xj_aload_n F 0 dX9_notes_129 rfl ?_
      refine xj_get F hq0 lgX9_358 dX9_notes_130 (fun v10 => ?_)
      refine xj_imul F dX9_notes_133 (fun v11 => ?_)
      refine xj_iload F 1 dX9_notes_134 rfl ?_
      refine xj_iadd F dX9_notes_136 (fun v12 => ?_)
      refine xj_aload_n F 0 dX9_notes_137 rfl ?_
      refine xj_getR F hq0 lgX9_60 dX9_notes_138 (fun u13 hu13 => ?_)
      refine xj_iload F 1 dX9_notes_141 rfl ?_
      refine xj_iald F hu13 dX9_notes_143 (fun v14 => ?_)
      refine xj_iast F hu9 dX9_notes_144 (fun m15 => ?_)
      refine xj_iinc F 1 1 (fun v16 => [(4, .int v16), (0, .ref (xad G q0))]) dX9_notes_145 rfl (by decide) (by decide) (fun _ => rfl) (fun v16 => ?_)
      refine xj_goto (tgt := 92) F dX9_notes_148 (by decide) ?_
      refine xj_sub (lv' := [(0, .ref (xad G q0)), (4, .int v16)]) [1, 0] rfl ?_
      exact hr92 q0 v16 m15 hq0
set_option maxRecDepth 20000 in
set_option maxHeartbeats 4000000 in
theorem wX9_notes {G : XG} {l : Launch} {d : Nat} (hn : xN G) (hdep : 1 ≤ d) {m0 : XM} (hT : xT G m0) {a0 : Nat} {a1 : Int32} {a2 : Int32} (ha0 : isa G a0 9) : ∀ z, fX9_notes (xln G) a0 a1 a2 m0 = some z → xMet G l mX9_notes d [.ref (xad G a0), .int a1, .int a2] m0 (xrV z) := by
  refine xMet_of (by decide +kernel) hn hT (Nat.le_of_ble_eq_true rfl) (fun X F => ?_)
  refine xj_sub (lv' := [(0, .ref (xad G a0)), (1, .int a1), (2, .int a2)]) [0, 1, 2] rfl ?_
  unfold fX9_notes
  refine xj_aload_n F 0 dX9_notes_0 rfl ?_
  refine xj_get F ha0 lgX9_355 dX9_notes_1 (fun v1 => ?_)
  refine xj_if_eq (tgt := 151) F dX9_notes_4 (by decide) ?_ ?_
  · refine xj_sub (lv' := [(0, .ref (xad G a0))]) [0] rfl ?_
    exact jX9_notes_151 F hdep a0 m0 ha0
  · refine xj_bipush F 6 dX9_notes_7 (by decide) ?_
    refine xj_aload_n F 0 dX9_notes_9 rfl ?_
    refine xj_get F ha0 lgX9_358 dX9_notes_10 (fun v2 => ?_)
    refine xj_imul F dX9_notes_13 (fun v3 => ?_)
    refine xj_istore_n (lv' := [(3, .int v3), (0, .ref (xad G a0)), (1, .int a1), (2, .int a2)]) F dX9_notes_14 (by decide) rfl ?_
    refine xj_aload_n F 1 dX9_notes_15 rfl ?_
    refine xj_getR F ha0 lgX9_66 dX9_notes_16 (fun u4 hu4 => ?_)
    refine xj_iload_n F 0 dX9_notes_19 rfl ?_
    refine xj_iload_n F 2 dX9_notes_20 rfl ?_
    refine xj_iast F hu4 dX9_notes_21 (fun m5 => ?_)
    refine xj_aload_n F 1 dX9_notes_22 rfl ?_
    refine xj_getR F ha0 lgX9_66 dX9_notes_23 (fun u6 hu6 => ?_)
    refine xj_iload_n F 0 dX9_notes_26 rfl ?_
    refine xj_iconst F 1 dX9_notes_27 (by decide) ?_
    refine xj_iadd F dX9_notes_28 (fun v7 => ?_)
    refine xj_aload_n F 1 dX9_notes_29 rfl ?_
    refine xj_getR F ha0 lgX9_20 dX9_notes_30 (fun u8 hu8 => ?_)
    refine xj_iload_n F 3 dX9_notes_33 rfl ?_
    refine xj_iconst F 1 dX9_notes_34 (by decide) ?_
    refine xj_callSI (As := [.ref (xad G u8), .int a2, .int 1]) (d' := 0) F lmX9_104 rfl rfl (Nat.le_of_ble_eq_true rfl) (xfit (Nat.le_trans (Nat.le_of_ble_eq_true rfl) hdep)) dX9_notes_35 (fun hT z hz => wX9_ofMember (xnd F) (Nat.le_refl _) hT (a0 := u8) (a1 := a2) (a2 := 1) hu8 z hz) (fun v10 m9 => ?_)
    refine xj_iast F hu6 dX9_notes_38 (fun m11 => ?_)
    refine xj_aload_n F 1 dX9_notes_39 rfl ?_
    refine xj_getR F ha0 lgX9_66 dX9_notes_40 (fun u12 hu12 => ?_)
    refine xj_iload_n F 0 dX9_notes_43 rfl ?_
    refine xj_iconst F 2 dX9_notes_44 (by decide) ?_
    refine xj_iadd F dX9_notes_45 (fun v13 => ?_)
    refine xj_aload_n F 1 dX9_notes_46 rfl ?_
    refine xj_getR F ha0 lgX9_45 dX9_notes_47 (fun u14 hu14 => ?_)
    refine xj_iload_n F 3 dX9_notes_50 rfl ?_
    refine xj_iald F hu14 dX9_notes_51 (fun v15 => ?_)
    refine xj_iast F hu12 dX9_notes_52 (fun m16 => ?_)
    refine xj_aload_n F 1 dX9_notes_53 rfl ?_
    refine xj_getR F ha0 lgX9_66 dX9_notes_54 (fun u17 hu17 => ?_)
    refine xj_iload_n F 0 dX9_notes_57 rfl ?_
    refine xj_iconst F 3 dX9_notes_58 (by decide) ?_
    refine xj_iadd F dX9_notes_59 (fun v18 => ?_)
    refine xj_aload_n F 1 dX9_notes_60 rfl ?_
    refine xj_get F ha0 lgX9_297 dX9_notes_61 (fun v19 => ?_)
    refine xj_iast F hu17 dX9_notes_64 (fun m20 => ?_)
    refine xj_aload_n F 1 dX9_notes_65 rfl ?_
    refine xj_getR F ha0 lgX9_66 dX9_notes_66 (fun u21 hu21 => ?_)
    refine xj_iload_n F 0 dX9_notes_69 rfl ?_
    refine xj_iconst F 4 dX9_notes_70 (by decide) ?_
    refine xj_iadd F dX9_notes_71 (fun v22 => ?_)
    refine xj_aload_n F 1 dX9_notes_72 rfl ?_
    refine xj_get F ha0 lgX9_303 dX9_notes_73 (fun v23 => ?_)
    refine xj_iast F hu21 dX9_notes_76 (fun m24 => ?_)
    refine xj_aload_n F 1 dX9_notes_77 rfl ?_
    refine xj_getR F ha0 lgX9_66 dX9_notes_78 (fun u25 hu25 => ?_)
    refine xj_iload_n F 0 dX9_notes_81 rfl ?_
    refine xj_iconst F 5 dX9_notes_82 (by decide) ?_
    refine xj_iadd F dX9_notes_83 (fun v26 => ?_)
    refine xj_aload_n F 1 dX9_notes_84 rfl ?_
    refine xj_get F ha0 lgX9_361 dX9_notes_85 (fun v27 => ?_)
    refine xj_iast F hu25 dX9_notes_88 (fun m28 => ?_)
    refine xj_iconst F 0 dX9_notes_89 (by decide) ?_
    refine xj_istore (lv' := [(4, .int 0), (3, .int v3), (0, .ref (xad G a0)), (1, .int a1), (2, .int a2)]) F dX9_notes_90 (by decide) rfl ?_
    refine xj_sub (lv' := [(0, .ref (xad G a0)), (4, .int 0)]) [2, 0] rfl ?_
    exact jX9_notes_92 F hdep XF a0 0 m28 ha0
set_option maxRecDepth 20000 in
set_option maxHeartbeats 4000000 in
theorem jX9_comesTo_212 {G : XG} {l : Launch} {d : Nat} {X : XX} (F : xF (xE G d) G X mX9_comesTo) (hdep : 2 ≤ d) {e : Nat} {R : Nat → Nat → Int32 → Int32 → XM → Option (Int32 × XM)} (hge : e + 1 + 1 ≤ d) (hR0 : ∀ {m0 : XM}, xT G m0 → ∀ {q : Nat}, isa G q 9 → ∀ (x0 x1 : Int32) (z : Int32 × XM), R 0 q x0 x1 m0 = some z → xMet G l mX9_comesTo (e + 1) [.ref (xad G q), .int x0] m0 (xrV z.2)) (hR1 : ∀ {m0 : XM}, xT G m0 → ∀ {q : Nat}, isa G q 9 → ∀ (x0 x1 : Int32) (z : Int32 × XM), R 1 q x0 x1 m0 = some z → xMet G l mX9_does (e + 1) [.ref (xad G q), .int x0, .int x1] m0 (xrV z.2)) : ∀ (q0 : Nat) (x1 : Int32) (p0 : Nat) (s1 : Int32) (s2 : Int32) (m0 : XM), isa G q0 9 → isa G p0 10 → xJ (xE G d) (xQ xrV G X mX9_comesTo) G l X mX9_comesTo 212 [(0, .ref (xad G q0)), (1, .int x1)] [.int s2, .int s1, .ref (xad G p0)] m0 (fX9_comesTo_212 (xln G) R q0 x1 p0 s1 s2 m0) := by
  intro q0 x1 p0 s1 s2 m0 hq0 hp0
  unfold fX9_comesTo_212
  refine xj_iast F hp0 dX9_comesTo_212 (fun m1 => ?_)
  refine xj_aload_n F 0 dX9_comesTo_213 rfl ?_
  refine xj_getR F hq0 lgX9_54 dX9_comesTo_214 (fun u2 hu2 => ?_)
  refine xj_iload_n F 1 dX9_comesTo_217 rfl ?_
  refine xj_aload_n F 0 dX9_comesTo_218 rfl ?_
  refine xj_get F hq0 lgX9_312 dX9_comesTo_219 (fun v3 => ?_)
  refine xj_iast F hu2 dX9_comesTo_222 (fun m4 => ?_)
  refine xj_aload_n F 0 dX9_comesTo_223 rfl ?_
  refine xj_dup F dX9_comesTo_224 rfl ?_
  refine xj_get F hq0 lgX9_312 dX9_comesTo_225 (fun v5 => ?_)
  refine xj_iconst F 1 dX9_comesTo_228 (by decide) ?_
  refine xj_iadd F dX9_comesTo_229 (fun v6 => ?_)
  refine xj_put F hq0 lpX9_312 dX9_comesTo_230 (fun m7 => ?_)
  exact xj_retV F rfl dX9_comesTo_233
set_option maxRecDepth 20000 in
set_option maxHeartbeats 4000000 in
theorem jX9_comesTo_140 {G : XG} {l : Launch} {d : Nat} {X : XX} (F : xF (xE G d) G X mX9_comesTo) (hdep : 2 ≤ d) {e : Nat} {R : Nat → Nat → Int32 → Int32 → XM → Option (Int32 × XM)} (hge : e + 1 + 1 ≤ d) (hR0 : ∀ {m0 : XM}, xT G m0 → ∀ {q : Nat}, isa G q 9 → ∀ (x0 x1 : Int32) (z : Int32 × XM), R 0 q x0 x1 m0 = some z → xMet G l mX9_comesTo (e + 1) [.ref (xad G q), .int x0] m0 (xrV z.2)) (hR1 : ∀ {m0 : XM}, xT G m0 → ∀ {q : Nat}, isa G q 9 → ∀ (x0 x1 : Int32) (z : Int32 × XM), R 1 q x0 x1 m0 = some z → xMet G l mX9_does (e + 1) [.ref (xad G q), .int x0, .int x1] m0 (xrV z.2)) : ∀ (q0 : Nat) (x1 : Int32) (m0 : XM), isa G q0 9 → xJ (xE G d) (xQ xrV G X mX9_comesTo) G l X mX9_comesTo 140 [(0, .ref (xad G q0)), (1, .int x1)] [] m0 (fX9_comesTo_140 (xln G) R q0 x1 m0) := by
  intro q0 x1 m0 hq0
  unfold fX9_comesTo_140
  refine xj_aload_n F 0 dX9_comesTo_140 rfl ?_
  refine xj_get F hq0 lgX9_300 dX9_comesTo_141 (fun v1 => ?_)
  refine xj_iconst F 2 dX9_comesTo_144 (by decide) ?_
  refine xj_icmp_ne (tgt := 149) F dX9_comesTo_145 (by decide) ?_ ?_
  · refine xj_aload_n F 0 dX9_comesTo_149 rfl ?_
    refine xj_dup F dX9_comesTo_150 rfl ?_
    refine xj_get F hq0 lgX9_303 dX9_comesTo_151 (fun v2 => ?_)
    refine xj_iconst F 1 dX9_comesTo_154 (by decide) ?_
    refine xj_isub F dX9_comesTo_155 (fun v3 => ?_)
    refine xj_put F hq0 lpX9_303 dX9_comesTo_156 (fun m4 => ?_)
    refine xj_aload_n F 0 dX9_comesTo_159 rfl ?_
    refine xj_get F hq0 lgX9_300 dX9_comesTo_160 (fun v5 => ?_)
    refine xj_if_ne (tgt := 174) F dX9_comesTo_163 (by decide) ?_ ?_
    · refine xj_aload_n F 0 dX9_comesTo_174 rfl ?_
      refine xj_getR F hq0 lgX9_39 dX9_comesTo_175 (fun u6 hu6 => ?_)
      refine xj_iload_n F 1 dX9_comesTo_178 rfl ?_
      refine xj_iconst F 3 dX9_comesTo_179 (by decide) ?_
      refine xj_iast F hu6 dX9_comesTo_180 (fun m7 => ?_)
      refine xj_aload_n F 0 dX9_comesTo_181 rfl ?_
      refine xj_getR F hq0 lgX9_48 dX9_comesTo_182 (fun u8 hu8 => ?_)
      refine xj_iload_n F 1 dX9_comesTo_185 rfl ?_
      refine xj_aload_n F 0 dX9_comesTo_186 rfl ?_
      refine xj_get F hq0 lgX9_306 dX9_comesTo_187 (fun v9 => ?_)
      refine xj_iast F hu8 dX9_comesTo_190 (fun m10 => ?_)
      refine xj_aload_n F 0 dX9_comesTo_191 rfl ?_
      refine xj_getR F hq0 lgX9_51 dX9_comesTo_192 (fun u11 hu11 => ?_)
      refine xj_iload_n F 1 dX9_comesTo_195 rfl ?_
      refine xj_aload_n F 0 dX9_comesTo_196 rfl ?_
      refine xj_get F hq0 lgX9_306 dX9_comesTo_197 (fun v12 => ?_)
      refine xj_iconst F 2 dX9_comesTo_200 (by decide) ?_
      refine xj_icmp_ne (tgt := 211) F dX9_comesTo_201 (by decide) ?_ ?_
      · refine xj_iconst F (-1) dX9_comesTo_211 (by decide) ?_
        exact jX9_comesTo_212 F hdep hge hR0 hR1 q0 x1 u11 x1 (-1) m10 hq0 hu11
      · refine xj_aload_n F 0 dX9_comesTo_204 rfl ?_
        refine xj_get F hq0 lgX9_309 dX9_comesTo_205 (fun v13 => ?_)
        refine xj_goto (tgt := 212) F dX9_comesTo_208 (by decide) ?_
        exact jX9_comesTo_212 F hdep hge hR0 hR1 q0 x1 u11 x1 v13 m10 hq0 hu11
    · refine xj_aload_n F 0 dX9_comesTo_166 rfl ?_
      refine xj_getR F hq0 lgX9_39 dX9_comesTo_167 (fun u14 hu14 => ?_)
      refine xj_iload_n F 1 dX9_comesTo_170 rfl ?_
      refine xj_iconst F 2 dX9_comesTo_171 (by decide) ?_
      refine xj_iast F hu14 dX9_comesTo_172 (fun m15 => ?_)
      exact xj_retV F rfl dX9_comesTo_173
  · exact xj_retV F rfl dX9_comesTo_148
set_option maxRecDepth 20000 in
set_option maxHeartbeats 4000000 in
theorem jX9_comesTo_100 {G : XG} {l : Launch} {d : Nat} {X : XX} (F : xF (xE G d) G X mX9_comesTo) (hdep : 2 ≤ d) {e : Nat} {R : Nat → Nat → Int32 → Int32 → XM → Option (Int32 × XM)} (hge : e + 1 + 1 ≤ d) (hR0 : ∀ {m0 : XM}, xT G m0 → ∀ {q : Nat}, isa G q 9 → ∀ (x0 x1 : Int32) (z : Int32 × XM), R 0 q x0 x1 m0 = some z → xMet G l mX9_comesTo (e + 1) [.ref (xad G q), .int x0] m0 (xrV z.2)) (hR1 : ∀ {m0 : XM}, xT G m0 → ∀ {q : Nat}, isa G q 9 → ∀ (x0 x1 : Int32) (z : Int32 × XM), R 1 q x0 x1 m0 = some z → xMet G l mX9_does (e + 1) [.ref (xad G q), .int x0, .int x1] m0 (xrV z.2)) : ∀ (n : Nat) (q0 : Nat) (x1 : Int32) (x2 : Int32) (m0 : XM), isa G q0 9 → xJ (xE G d) (xQ xrV G X mX9_comesTo) G l X mX9_comesTo 100 [(0, .ref (xad G q0)), (1, .int x1), (2, .int x2)] [] m0 (fX9_comesTo_100 (xln G) R n q0 x1 x2 m0) := by
  intro n
  induction n with
  | zero => intro q0 x1 x2 m0 hq0; exact xj_none
  | succ n hr100 =>
    intro q0 x1 x2 m0 hq0
    unfold fX9_comesTo_100
    generalize hrg100 : (fun q0 x1 x2 m0 => fX9_comesTo_100 (xln G) R n q0 x1 x2 m0) = r100
    have hr100 : ∀ (q0 : Nat) (x1 : Int32) (x2 : Int32) (m0 : XM), isa G q0 9 → xJ (xE G d) (xQ xrV G X mX9_comesTo) G l X mX9_comesTo 100 [(0, .ref (xad G q0)), (1, .int x1), (2, .int x2)] [] m0 (r100 q0 x1 x2 m0) := by
      subst hrg100
      exact hr100
    clear hrg100
    refine xj_eq (xv_eq _ _) ?_
    refine xj_iload_n F 2 dX9_comesTo_100 rfl ?_
    refine xj_aload_n F 0 dX9_comesTo_101 rfl ?_
    refine xj_getR F hq0 lgX9_20 dX9_comesTo_102 (fun u1 hu1 => ?_)
    refine xj_iload_n F 1 dX9_comesTo_105 rfl ?_
    refine xj_iconst F 2 dX9_comesTo_106 (by decide) ?_
    refine xj_callSI (As := [.ref (xad G u1), .int x1, .int 2]) (d' := 0) F lmX9_97 rfl rfl (Nat.le_of_ble_eq_true rfl) (xfit (Nat.le_trans (Nat.le_of_ble_eq_true rfl) hdep)) dX9_comesTo_107 (fun hT z hz => wX9_unitOf (xnd F) (Nat.le_refl _) hT (a0 := u1) (a1 := x1) (a2 := 2) hu1 z hz) (fun v3 m2 => ?_)
    refine xj_icmp_ge (tgt := 140) F dX9_comesTo_110 (by decide) ?_ ?_
    · refine xj_sub (lv' := [(0, .ref (xad G q0)), (1, .int x1)]) [0, 1] rfl ?_
      exact jX9_comesTo_140 F hdep hge hR0 hR1 q0 x1 m2 hq0
    · refine xj_aload_n F 0 dX9_comesTo_113 rfl ?_
      refine xj_get F hq0 lgX9_300 dX9_comesTo_114 (fun v4 => ?_)
      refine xj_if_ne (tgt := 140) F dX9_comesTo_117 (by decide) ?_ ?_
      · refine xj_sub (lv' := [(0, .ref (xad G q0)), (1, .int x1)]) [0, 1] rfl ?_
        exact jX9_comesTo_140 F hdep hge hR0 hR1 q0 x1 m2 hq0
      · refine xj_aload_n F 0 dX9_comesTo_120 rfl ?_
        refine xj_iload_n F 1 dX9_comesTo_121 rfl ?_
        refine xj_aload_n F 0 dX9_comesTo_122 rfl ?_
        refine xj_getR F hq0 lgX9_20 dX9_comesTo_123 (fun u5 hu5 => ?_)
        refine xj_iload_n F 1 dX9_comesTo_126 rfl ?_
        refine xj_iload_n F 2 dX9_comesTo_127 rfl ?_
        refine xj_callSI (As := [.ref (xad G u5), .int x1, .int x2]) (d' := 0) F lmX9_101 rfl rfl (Nat.le_of_ble_eq_true rfl) (xfit (Nat.le_trans (Nat.le_of_ble_eq_true rfl) hdep)) dX9_comesTo_128 (fun hT z hz => wX9_memberAt (xnd F) (Nat.le_refl _) hT (a0 := u5) (a1 := x1) (a2 := x2) hu5 z hz) (fun v7 m6 => ?_)
        refine xj_callVV (b := q0) (As := [.int x1, .int v7]) (d' := e + 1) F hq0 lmX9_331 rfl rfl (Nat.le_of_ble_eq_true rfl) (xfit hge) dX9_comesTo_131 (fun hT => xvR (P := fun w => xMet G l mX9_does (e + 1) (.ref (xad G q0) :: [.int x1, .int v7]) _ w) (fun z hz => hR1 hT hq0 x1 v7 z hz)) (fun m8 => ?_)
        refine xj_iinc F 2 1 (fun v9 => [(2, .int v9), (0, .ref (xad G q0)), (1, .int x1)]) dX9_comesTo_134 rfl (by decide) (by decide) (fun _ => rfl) (fun v9 => ?_)
        refine xj_goto (tgt := 100) F dX9_comesTo_137 (by decide) ?_
        refine xj_sub (lv' := [(0, .ref (xad G q0)), (1, .int x1), (2, .int v9)]) [1, 2, 0] rfl ?_
        exact hr100 q0 x1 v9 m8 hq0
set_option maxRecDepth 20000 in
set_option maxHeartbeats 4000000 in
theorem jX9_comesTo_98 {G : XG} {l : Launch} {d : Nat} {X : XX} (F : xF (xE G d) G X mX9_comesTo) (hdep : 2 ≤ d) {e : Nat} {R : Nat → Nat → Int32 → Int32 → XM → Option (Int32 × XM)} (hge : e + 1 + 1 ≤ d) (hR0 : ∀ {m0 : XM}, xT G m0 → ∀ {q : Nat}, isa G q 9 → ∀ (x0 x1 : Int32) (z : Int32 × XM), R 0 q x0 x1 m0 = some z → xMet G l mX9_comesTo (e + 1) [.ref (xad G q), .int x0] m0 (xrV z.2)) (hR1 : ∀ {m0 : XM}, xT G m0 → ∀ {q : Nat}, isa G q 9 → ∀ (x0 x1 : Int32) (z : Int32 × XM), R 1 q x0 x1 m0 = some z → xMet G l mX9_does (e + 1) [.ref (xad G q), .int x0, .int x1] m0 (xrV z.2)) : ∀ (q0 : Nat) (x1 : Int32) (m0 : XM), isa G q0 9 → xJ (xE G d) (xQ xrV G X mX9_comesTo) G l X mX9_comesTo 98 [(0, .ref (xad G q0)), (1, .int x1)] [] m0 (fX9_comesTo_98 (xln G) R q0 x1 m0) := by
  intro q0 x1 m0 hq0
  unfold fX9_comesTo_98
  refine xj_iconst F 0 dX9_comesTo_98 (by decide) ?_
  refine xj_istore_n (lv' := [(2, .int 0), (0, .ref (xad G q0)), (1, .int x1)]) F dX9_comesTo_99 (by decide) rfl ?_
  refine xj_sub (lv' := [(0, .ref (xad G q0)), (1, .int x1), (2, .int 0)]) [1, 2, 0] rfl ?_
  exact jX9_comesTo_100 F hdep hge hR0 hR1 XF q0 x1 0 m0 hq0
set_option maxRecDepth 20000 in
set_option maxHeartbeats 4000000 in
theorem wX9_comesTo {G : XG} {l : Launch} {d : Nat} (hn : xN G) (hdep : 2 ≤ d) {e : Nat} {R : Nat → Nat → Int32 → Int32 → XM → Option (Int32 × XM)} (hge : e + 1 + 1 ≤ d) (hR0 : ∀ {m0 : XM}, xT G m0 → ∀ {q : Nat}, isa G q 9 → ∀ (x0 x1 : Int32) (z : Int32 × XM), R 0 q x0 x1 m0 = some z → xMet G l mX9_comesTo (e + 1) [.ref (xad G q), .int x0] m0 (xrV z.2)) (hR1 : ∀ {m0 : XM}, xT G m0 → ∀ {q : Nat}, isa G q 9 → ∀ (x0 x1 : Int32) (z : Int32 × XM), R 1 q x0 x1 m0 = some z → xMet G l mX9_does (e + 1) [.ref (xad G q), .int x0, .int x1] m0 (xrV z.2)) {m0 : XM} (hT : xT G m0) {a0 : Nat} {a1 : Int32} (ha0 : isa G a0 9) : ∀ z, fX9_comesTo (xln G) R a0 a1 m0 = some z → xMet G l mX9_comesTo d [.ref (xad G a0), .int a1] m0 (xrV z) := by
  refine xMet_of (by decide +kernel) hn hT (Nat.le_of_ble_eq_true rfl) (fun X F => ?_)
  refine xj_sub (lv' := [(0, .ref (xad G a0)), (1, .int a1)]) [0, 1] rfl ?_
  unfold fX9_comesTo
  refine xj_aload_n F 0 dX9_comesTo_0 rfl ?_
  refine xj_getR F ha0 lgX9_39 dX9_comesTo_1 (fun u1 hu1 => ?_)
  refine xj_iload_n F 1 dX9_comesTo_4 rfl ?_
  refine xj_iald F hu1 dX9_comesTo_5 (fun v2 => ?_)
  refine xj_iconst F 3 dX9_comesTo_6 (by decide) ?_
  refine xj_icmp_ne (tgt := 17) F dX9_comesTo_7 (by decide) ?_ ?_
  · refine xj_aload_n F 0 dX9_comesTo_17 rfl ?_
    refine xj_getR F ha0 lgX9_39 dX9_comesTo_18 (fun u3 hu3 => ?_)
    refine xj_iload_n F 1 dX9_comesTo_21 rfl ?_
    refine xj_iald F hu3 dX9_comesTo_22 (fun v4 => ?_)
    refine xj_if_ne (tgt := 36) F dX9_comesTo_23 (by decide) ?_ ?_
    · exact xj_retV F rfl dX9_comesTo_36
    · refine xj_aload_n F 0 dX9_comesTo_26 rfl ?_
      refine xj_iload_n F 1 dX9_comesTo_27 rfl ?_
      refine xj_bipush F 99 dX9_comesTo_28 (by decide) ?_
      refine xj_callVI (b := a0) (As := [.int a1, .int 99]) (d' := 0) F ha0 lmX9_319 rfl rfl (Nat.le_of_ble_eq_true rfl) (xfit (Nat.le_trans (Nat.le_of_ble_eq_true rfl) hdep)) dX9_comesTo_30 (fun hT z hz => wX9_opens (xnd F) (Nat.le_refl _) hT (a0 := a0) (a1 := a1) (a2 := 99) ha0 z hz) (fun v6 m5 => ?_)
      refine xj_if_ne (tgt := 37) F dX9_comesTo_33 (by decide) ?_ ?_
      · refine xj_aload_n F 0 dX9_comesTo_37 rfl ?_
        refine xj_callVI (b := a0) (As := []) (d' := 0) F ha0 lmX9_322 rfl rfl (Nat.le_of_ble_eq_true rfl) (xfit (Nat.le_trans (Nat.le_of_ble_eq_true rfl) hdep)) dX9_comesTo_38 (fun hT z hz => wX9_works (xnd F) (Nat.le_refl _) hT (a0 := a0) ha0 z hz) (fun v8 m7 => ?_)
        refine xj_if_ne (tgt := 45) F dX9_comesTo_41 (by decide) ?_ ?_
        · refine xj_aload_n F 0 dX9_comesTo_45 rfl ?_
          refine xj_getR F ha0 lgX9_39 dX9_comesTo_46 (fun u9 hu9 => ?_)
          refine xj_iload_n F 1 dX9_comesTo_49 rfl ?_
          refine xj_iconst F 1 dX9_comesTo_50 (by decide) ?_
          refine xj_iast F hu9 dX9_comesTo_51 (fun m10 => ?_)
          refine xj_aload_n F 0 dX9_comesTo_52 rfl ?_
          refine xj_getR F ha0 lgX9_42 dX9_comesTo_53 (fun u11 hu11 => ?_)
          refine xj_aload_n F 0 dX9_comesTo_56 rfl ?_
          refine xj_get F ha0 lgX9_325 dX9_comesTo_57 (fun v12 => ?_)
          refine xj_iload_n F 1 dX9_comesTo_60 rfl ?_
          refine xj_iast F hu11 dX9_comesTo_61 (fun m13 => ?_)
          refine xj_aload_n F 0 dX9_comesTo_62 rfl ?_
          refine xj_dup F dX9_comesTo_63 rfl ?_
          refine xj_get F ha0 lgX9_325 dX9_comesTo_64 (fun v14 => ?_)
          refine xj_iconst F 1 dX9_comesTo_67 (by decide) ?_
          refine xj_iadd F dX9_comesTo_68 (fun v15 => ?_)
          refine xj_put F ha0 lpX9_325 dX9_comesTo_69 (fun m16 => ?_)
          refine xj_aload_n F 0 dX9_comesTo_72 rfl ?_
          refine xj_getR F ha0 lgX9_20 dX9_comesTo_73 (fun u17 hu17 => ?_)
          refine xj_iload_n F 1 dX9_comesTo_76 rfl ?_
          refine xj_iconst F 1 dX9_comesTo_77 (by decide) ?_
          refine xj_callSI (As := [.ref (xad G u17), .int a1, .int 1]) (d' := 0) F lmX9_97 rfl rfl (Nat.le_of_ble_eq_true rfl) (xfit (Nat.le_trans (Nat.le_of_ble_eq_true rfl) hdep)) dX9_comesTo_78 (fun hT z hz => wX9_unitOf (xnd F) (Nat.le_refl _) hT (a0 := u17) (a1 := a1) (a2 := 1) hu17 z hz) (fun v19 m18 => ?_)
          refine xj_iconst F (-1) dX9_comesTo_81 (by decide) ?_
          refine xj_icmp_eq (tgt := 98) F dX9_comesTo_82 (by decide) ?_ ?_
          · exact jX9_comesTo_98 F hdep hge hR0 hR1 a0 a1 m18 ha0
          · refine xj_aload_n F 0 dX9_comesTo_85 rfl ?_
            refine xj_aload_n F 0 dX9_comesTo_86 rfl ?_
            refine xj_getR F ha0 lgX9_20 dX9_comesTo_87 (fun u20 hu20 => ?_)
            refine xj_iload_n F 1 dX9_comesTo_90 rfl ?_
            refine xj_iconst F 1 dX9_comesTo_91 (by decide) ?_
            refine xj_callSI (As := [.ref (xad G u20), .int a1, .int 1]) (d' := 0) F lmX9_97 rfl rfl (Nat.le_of_ble_eq_true rfl) (xfit (Nat.le_trans (Nat.le_of_ble_eq_true rfl) hdep)) dX9_comesTo_92 (fun hT z hz => wX9_unitOf (xnd F) (Nat.le_refl _) hT (a0 := u20) (a1 := a1) (a2 := 1) hu20 z hz) (fun v22 m21 => ?_)
            refine xj_callVV (b := a0) (As := [.int v22]) (d' := e + 1) F ha0 lmX9_328 rfl rfl (Nat.le_of_ble_eq_true rfl) (xfit hge) dX9_comesTo_95 (fun hT => xvR (P := fun w => xMet G l mX9_comesTo (e + 1) (.ref (xad G a0) :: [.int v22]) _ w) (fun z hz => hR0 hT ha0 v22 0 z hz)) (fun m23 => ?_)
            exact jX9_comesTo_98 F hdep hge hR0 hR1 a0 a1 m23 ha0
        · exact xj_retV F rfl dX9_comesTo_44
      · exact xj_retV F rfl dX9_comesTo_36
  · refine xj_aload_n F 0 dX9_comesTo_10 rfl ?_
    refine xj_iconst F 2 dX9_comesTo_11 (by decide) ?_
    refine xj_iload_n F 1 dX9_comesTo_12 rfl ?_
    refine xj_callVV (b := a0) (As := [.int 2, .int a1]) (d' := 0) F ha0 lmX9_315 rfl rfl (Nat.le_of_ble_eq_true rfl) (xfit (Nat.le_trans (Nat.le_of_ble_eq_true rfl) hdep)) dX9_comesTo_13 (fun hT z hz => wX9_fails (xnd F) (Nat.le_refl _) hT (a0 := a0) (a1 := 2) (a2 := a1) ha0 z hz) (fun m24 => ?_)
    exact xj_retV F rfl dX9_comesTo_16
