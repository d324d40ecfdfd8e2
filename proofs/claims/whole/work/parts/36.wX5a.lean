set_option maxRecDepth 20000 in
set_option maxHeartbeats 4000000 in
theorem jX5_countTerms_32 {G : XG} {l : Launch} {d : Nat} {X : XX} (F : xF (xE G d) G X mX5_countTerms) (hdep : 0 ≤ d) {r9 : Nat → Int32 → Int32 → Int32 → XM → Option (Int32 × XM)} (hr9 : ∀ (q0 : Nat) (x1 : Int32) (x2 : Int32) (x3 : Int32) (m0 : XM), isa G q0 5 → xJ (xE G d) (xQ xrI G X mX5_countTerms) G l X mX5_countTerms 9 [(0, .ref (xad G q0)), (1, .int x1), (2, .int x2), (3, .int x3)] [] m0 (r9 q0 x1 x2 x3 m0)) : ∀ (q0 : Nat) (x1 : Int32) (x2 : Int32) (x3 : Int32) (m0 : XM), isa G q0 5 → xJ (xE G d) (xQ xrI G X mX5_countTerms) G l X mX5_countTerms 32 [(0, .ref (xad G q0)), (1, .int x1), (2, .int x2), (3, .int x3)] [] m0 (fX5_countTerms_32 (xln G) r9 q0 x1 x2 x3 m0) := by
  intro q0 x1 x2 x3 m0 hq0
  unfold fX5_countTerms_32
  refine xj_iinc F 3 1 (fun v1 => [(3, .int v1), (0, .ref (xad G q0)), (1, .int x1), (2, .int x2)]) dX5_countTerms_32 rfl (by decide) (by decide) (fun _ => rfl) (fun v1 => ?_)
  refine xj_goto (tgt := 9) F dX5_countTerms_35 (by decide) ?_
  refine xj_sub (lv' := [(0, .ref (xad G q0)), (1, .int x1), (2, .int x2), (3, .int v1)]) [1, 2, 3, 0] rfl ?_
  exact hr9 q0 x1 x2 v1 m0 hq0
set_option maxRecDepth 20000 in
set_option maxHeartbeats 4000000 in
theorem jX5_countTerms_9 {G : XG} {l : Launch} {d : Nat} {X : XX} (F : xF (xE G d) G X mX5_countTerms) (hdep : 0 ≤ d) : ∀ (n : Nat) (q0 : Nat) (x1 : Int32) (x2 : Int32) (x3 : Int32) (m0 : XM), isa G q0 5 → xJ (xE G d) (xQ xrI G X mX5_countTerms) G l X mX5_countTerms 9 [(0, .ref (xad G q0)), (1, .int x1), (2, .int x2), (3, .int x3)] [] m0 (fX5_countTerms_9 (xln G) n q0 x1 x2 x3 m0) := by
  intro n
  induction n with
  | zero => intro q0 x1 x2 x3 m0 hq0; exact xj_none
  | succ n hr9 =>
    intro q0 x1 x2 x3 m0 hq0
    unfold fX5_countTerms_9
    generalize hrg9 : (fun q0 x1 x2 x3 m0 => fX5_countTerms_9 (xln G) n q0 x1 x2 x3 m0) = r9
    have hr9 : ∀ (q0 : Nat) (x1 : Int32) (x2 : Int32) (x3 : Int32) (m0 : XM), isa G q0 5 → xJ (xE G d) (xQ xrI G X mX5_countTerms) G l X mX5_countTerms 9 [(0, .ref (xad G q0)), (1, .int x1), (2, .int x2), (3, .int x3)] [] m0 (r9 q0 x1 x2 x3 m0) := by
      subst hrg9
      exact hr9
    clear hrg9
    refine xj_eq (xv_eq _ _) ?_
    refine xj_iload_n F 3 dX5_countTerms_9 rfl ?_
    refine xj_aload_n F 0 dX5_countTerms_10 rfl ?_
    refine xj_getR F hq0 lgX5_21 dX5_countTerms_11 (fun u1 hu1 => ?_)
    refine xj_iload_n F 1 dX5_countTerms_14 rfl ?_
    refine xj_iald F hu1 dX5_countTerms_15 (fun v2 => ?_)
    refine xj_icmp_ge (tgt := 38) F dX5_countTerms_16 (by decide) ?_ ?_
    · refine xj_iload_n F 2 dX5_countTerms_38 rfl ?_
      exact xj_ret F rfl dX5_countTerms_39
    · refine xj_aload_n F 0 dX5_countTerms_19 rfl ?_
      refine xj_getR F hq0 lgX5_9 dX5_countTerms_20 (fun u3 hu3 => ?_)
      refine xj_iload_n F 3 dX5_countTerms_23 rfl ?_
      refine xj_iald F hu3 dX5_countTerms_24 (fun v4 => ?_)
      refine xj_iconst F 3 dX5_countTerms_25 (by decide) ?_
      refine xj_icmp_gt (tgt := 32) F dX5_countTerms_26 (by decide) ?_ ?_
      · exact jX5_countTerms_32 F hdep hr9 q0 x1 x2 x3 m0 hq0
      · refine xj_iinc F 2 1 (fun v5 => [(2, .int v5), (0, .ref (xad G q0)), (1, .int x1), (3, .int x3)]) dX5_countTerms_29 rfl (by decide) (by decide) (fun _ => rfl) (fun v5 => ?_)
        refine xj_sub (lv' := [(0, .ref (xad G q0)), (1, .int x1), (2, .int v5), (3, .int x3)]) [1, 2, 0, 3] rfl ?_
        exact jX5_countTerms_32 F hdep hr9 q0 x1 v5 x3 m0 hq0
set_option maxRecDepth 20000 in
set_option maxHeartbeats 4000000 in
theorem wX5_countTerms {G : XG} {l : Launch} {d : Nat} (hn : xN G) (hdep : 0 ≤ d) {m0 : XM} (hT : xT G m0) {a0 : Nat} {a1 : Int32} (ha0 : isa G a0 5) : ∀ z, fX5_countTerms (xln G) a0 a1 m0 = some z → xMet G l mX5_countTerms d [.ref (xad G a0), .int a1] m0 (xrI z) := by
  refine xMet_of (by decide +kernel) hn hT (Nat.le_of_ble_eq_true rfl) (fun X F => ?_)
  refine xj_sub (lv' := [(0, .ref (xad G a0)), (1, .int a1)]) [0, 1] rfl ?_
  unfold fX5_countTerms
  refine xj_iconst F 0 dX5_countTerms_0 (by decide) ?_
  refine xj_istore_n (lv' := [(2, .int 0), (0, .ref (xad G a0)), (1, .int a1)]) F dX5_countTerms_1 (by decide) rfl ?_
  refine xj_aload_n F 1 dX5_countTerms_2 rfl ?_
  refine xj_getR F ha0 lgX5_18 dX5_countTerms_3 (fun u1 hu1 => ?_)
  refine xj_iload_n F 2 dX5_countTerms_6 rfl ?_
  refine xj_iald F hu1 dX5_countTerms_7 (fun v2 => ?_)
  refine xj_istore_n (lv' := [(3, .int v2), (2, .int 0), (0, .ref (xad G a0)), (1, .int a1)]) F dX5_countTerms_8 (by decide) rfl ?_
  refine xj_sub (lv' := [(0, .ref (xad G a0)), (1, .int a1), (2, .int 0), (3, .int v2)]) [2, 3, 1, 0] rfl ?_
  exact jX5_countTerms_9 F hdep XF a0 a1 0 v2 m0 ha0
