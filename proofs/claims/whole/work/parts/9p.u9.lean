/-! ===== u: member ===== -/
/-- what a member tells -/
def zmt (P : zP) (x w : Nat) : Int32 :=
  if w = 0 then zN (zknd P x) else if w = 1 then (if zon P x then zN 1 else zN 0)
  else if w = 2 then (if zknd P x = 3 then zopt (((zini P x).bind Prod.snd).bind (znam P)) else zopt (znam P x))
  else if w = 3 then (if zknd P x = 4 then zN (zcl1 ((zfun P x).getLast?.elim [] Prod.fst)) else zN ((zini P x).elim 0 fun d => zcl1 d.1))
  else (if zknd P x = 3 then zopt (((zini P x).bind Prod.snd).map (· / 12)) else zopt (znum P x))
section UI
variable {N : Nat → Nat} {m : XM} {c d : Nat} {S : zJ} {P : zP}
theorem zdats_last {m : XM} : ∀ (l : List zDeed) (k : Nat) (e : zDeed), zdats m c k (l ++ [e]) → zdat m c (k + l.length) e
  | [], k, e, h => h.1
  | a :: l, k, e, h => by
    have := zdats_last l (k + 1) e h.2
    rw [List.length_cons, show k + (l.length + 1) = k + 1 + l.length by omega]
    exact this
theorem u_member (hW : jW P) (hUN : zUN N c) (hUr : zUr m c) (hCP : zCP m c P) {x : Nat} (hx : zok P x) : (gi m (c + 4) x = zmt P x 0 ∧ gi m (c + 8) x = zmt P x 1) ∧ fX6_nameOf N c (zN x) m = some (zmt P x 2, m) ∧ fX6_termsOf N c (zN x) m = some (zmt P x 3, m) ∧ fX6_detailOf N c (zN x) m = some (zmt P x 4, m) := by
  have hwf := hW.1
  have h84 := zok_84 hwf hx
  obtain ⟨-, -, -, hd4, -, hd6, -⟩ := id hCP
  obtain ⟨e4, e5, e6, e8⟩ := hd4 x hx
  have hk4 := (hwf.2.2.1 x hx).1
  have hUN0 := hUN
  have hUr0 := hUr
  obtain ⟨-, -, -, u4, u5, u6, u7, u8, -, -, -, u13, u14, u15, u16, u17⟩ := hUN
  obtain ⟨-, -, -, r4, r5, r6, r7, r8, -, -, -, r13, q1, q2, q4, q5, q6⟩ := hUr
  refine ⟨⟨e4, e8⟩, ?_, ?_, ?_⟩
  · unfold fX6_nameOf
    simp (disch := omega) only [zgr r4, zald, e4, zN_lit, zN_eq, zgr r5, e5, zgr r13, zgr q6, zgr r7]
    show _ = some (if zknd P x = 3 then zopt (((zini P x).bind Prod.snd).bind (znam P)) else zopt (znam P x), m)
    by_cases e : zknd P x = 3
    · obtain ⟨de, y, h1, h2⟩ := (hW.2.2.2 x hx).2.2.1 e
      obtain ⟨k, k1, k2⟩ := ((hd6 x hx).1 (by omega)).2 de h1
      have hk := k2.1
      obtain ⟨f, -, -, -, -, k3⟩ := k2.2
      have hy := (((hwf.2.2.1 x hx).2.1 de h1).2 y h2).1
      have hy84 := zok_84 hwf hy
      have hyn := (hd4 y hy).2.1
      rw [h2] at k3
      simp only [zopt] at k3
      rw [if_pos e, if_pos e, k1]
      simp (disch := omega) only [zald, k3, hyn]
      rw [h1]
      show some (zopt (znam P y), m) = some (zopt (de.2.bind (znam P)), m)
      rw [h2]
      rfl
    · rw [if_neg e, if_neg e]
  · unfold fX6_termsOf
    simp (disch := omega) only [zgr r7, zald, zgr r13, zgr r4, e4, zN_lit, zN_eq, zgr r6, e6]
    show _ = some (if zknd P x = 4 then zN (zcl1 ((zfun P x).getLast?.elim [] Prod.fst)) else zN ((zini P x).elim 0 fun d => zcl1 d.1), m)
    by_cases e : zknd P x = 4
    · obtain ⟨k, k1, k2, k3⟩ := (hd6 x hx).2 e
      obtain ⟨-, ⟨l0, dl, hl0⟩, -⟩ := (hwf.2.2.1 x hx).2.2.2.1 e
      have hok := (hwf.2.2.1 x hx).2.2.1 (dl, none) (by rw [hl0]; exact List.mem_append_right _ List.mem_cons_self)
      rw [hl0] at k2
      have hl := zdats_last l0 k (dl, none) k2
      have hk300 := hl.1
      have hlen : (zfun P x).length - 1 = l0.length := by rw [hl0]; simp
      rw [k1, k3, hlen]
      simp (disch := omega) only [zopt, zneg, zN_m, if_false, e, if_true, zv, zN_add, u_terms hUN0 hUr0 hok hl, zca]
      rw [hl0]
      simp
    · obtain ⟨h61, h62⟩ := (hd6 x hx).1 e
      cases hi : zini P x with
      | none =>
        rw [h61 hi]
        simp only [zneg, if_true, if_neg e]
        rfl
      | some de =>
        obtain ⟨k, k1, k2⟩ := h62 de hi
        have hk := k2.1
        rw [k1]
        simp (disch := omega) only [zneg, zN_m, if_false, if_neg e, u_terms hUN0 hUr0 ((hwf.2.2.1 x hx).2.1 de hi) k2, zca]
        rfl
  · unfold fX6_detailOf
    simp (disch := omega) only [zgr r4, zald, e4, zN_lit, zN_eq, zgr r6, e6, zgr r13, zgr q6, zgr r7]
    show _ = some (if zknd P x = 3 then zopt (((zini P x).bind Prod.snd).map (· / 12)) else zopt (znum P x), m)
    by_cases e : zknd P x = 3
    · obtain ⟨de, y, h1, h2⟩ := (hW.2.2.2 x hx).2.2.1 e
      obtain ⟨k, k1, k2⟩ := ((hd6 x hx).1 (by omega)).2 de h1
      have hk := k2.1
      obtain ⟨f, -, -, -, -, k3⟩ := k2.2
      have hy := (((hwf.2.2.1 x hx).2.1 de h1).2 y h2).1
      have hy84 := zok_84 hwf hy
      rw [h2] at k3
      simp only [zopt] at k3
      rw [if_pos e, if_pos e, k1]
      simp (disch := omega) only [zald, k3, zdv, zv, zN_div]
      rw [h1]
      show some (zN (y / 12), m) = some (zopt (de.2.map (· / 12)), m)
      rw [h2]
      rfl
    · rw [if_neg e, if_neg e]
theorem y_member (hW : jW P) (hU : yU N m P) {u i w : Nat} (hu : u < zn P) (hi : i < zcnt P u) (hw4 : w ≤ 4) : ∀ (f : Int32 → XM → Option (Int32 × XM)), (xgr m 85 9 fun u3 => xca (fX9_memberAt N u3 (zN u) (zN i) m) fun v5 m4 => xgr m4 85 9 fun u6 => xca (fX9_ofMember N u6 v5 (zN 0) m4) fun v8 m7 => xgr m7 85 9 fun u9 => xca (fX9_ofMember N u9 v5 (zN 2) m7) fun v11 m10 => if zN w = zN 0 then (some (v8, m10)) else (if zN w = zN 1 then (xgr m10 85 11 fun u14 => xald N m10 u14 v5 fun v15 => if v15 = zN 0 then (some (zN 1, m10)) else (some (zN 0, m10))) else (if zN w = zN 2 then (if v8 = zN 3 then (xgr m10 85 9 fun u20 => xgr m10 85 9 fun u21 => xca (fX9_ofAct N u21 v11 (zN 1) m10) fun v23 m22 => xca (fX9_ofMember N u20 v23 (zN 1) m22) fun v25 m24 => some (v25, m24)) else (xgr m10 85 9 fun u17 => xca (fX9_ofMember N u17 v5 (zN 1) m10) fun v19 m18 => some (v19, m18))) else (if zN w = zN 3 then (if v8 = zN 0 then (some (zN 0, m10)) else (if v8 = zN 2 then (fX9_member_199 N 85 v11 85 m10) else (if v8 = zN 3 then (fX9_member_199 N 85 v11 85 m10) else (fX9_member_214 N 85 v11 m10)))) else (if v8 = zN 0 then (some (v11, m10)) else (if v8 = zN 3 then (xgr m10 85 9 fun u30 => xca (fX9_ofAct N u30 v11 (zN 0) m10) fun v32 m31 => some (v32, m31)) else (if v8 = zN 4 then (xgr m10 85 9 fun u27 => xca (fX9_ofMember N u27 v5 (zN 3) m10) fun v29 m28 => some (v29, m28)) else (some (zM, m10))))))))) = some (zmt P (12 * u + zplc P u i) w, m) := by
  intro _
  have hwf := hW.1
  have hz := hwf.1
  have hcn := (hwf.2.1 u hu).1
  have hWW : yW N (gi m 88) m P := ⟨hU, rfl⟩
  obtain ⟨⟨-, -, n88, -, n90, -⟩, ⟨-, -, g9, -, g11, -⟩, -, ⟨-, -, -, hu0, hm, -⟩⟩ := hU
  have hp := (hu0 u hu).2.2.2 i hi
  have hok := zplc_ok hwf hu (i := i) hi
  have hmid := zmid_lt hwf hok
  have hme := zmid_plc hwf hu (i := i) hi
  obtain ⟨⟨y0, y1, y2, y3, y4, y5⟩, y6⟩ := hm _ hok
  have hk4 := (hwf.2.2.1 _ hok).1
  rw [hme] at y0 y1 y2 y3 y4 y5 y6 hmid
  have hw3 := hwf.2.2.1 _ hok
  have hx4 := hW.2.2.2 _ hok
  generalize 12 * u + zplc P u i = x at *
  have e0 := yo_mem (m := m) (a := 88) (x := zbase P u + zplc P u i) (w := 0) n88 (by omega) (by omega)
  rw [Nat.add_zero, y0] at e0
  have hT : ∀ f l, ySum (gi m 88) P f l → fX9_member_214 N 85 (zN f) m = some (zN (zcl1 l), m) := fun f l hl => by
    unfold fX9_member_214
    rw [y_termsG (N := N) (P := P) 9 40 (by omega) m f l hl hWW, zca]
  have hTn : fX9_member_214 N 85 zM m = some (zN 0, m) := by
    unfold fX9_member_214
    have : gX9_termsOf N 40 0 85 zM m = some (zN 0, m) := by
      rw [gX9_termsOf, zv, if_pos rfl]
      unfold fX9_termsOf
      have hX := zXF
      revert hX
      generalize XF = nf
      intro hX
      obtain ⟨nf, rfl⟩ : ∃ k, nf = k + 1 := ⟨nf - 1, by omega⟩
      unfold fX9_termsOf_4
      simp only [zv, zN_lit, zneg, if_true]
    rw [this, zca]
  have hw5 : w = 0 ∨ w = 1 ∨ w = 2 ∨ w = 3 ∨ w = 4 := by omega
  have hkc : zknd P x = 0 ∨ zknd P x = 1 ∨ zknd P x = 2 ∨ zknd P x = 3 ∨ zknd P x = 4 := by omega
  rw [zgr g9, yo_memb n88 (by omega) (by omega), hp, zca, zgr g9, e0, zca, zgr g9, yo_mem n88 (by omega) (by omega), zca]
  rcases hw5 with rfl | rfl | rfl | rfl | rfl
  · rw [if_pos rfl]; rfl
  · rw [if_neg (by rw [zN10]; exact id), if_pos rfl, zgr g11, zald (by omega) (by omega), y6]
    show _ = some (if zon P x = true then zN 1 else zN 0, m)
    by_cases e : zon P x = true
    · rw [if_pos e, if_pos rfl, if_pos e]
    · rw [if_neg e, if_neg (by rw [zN10]; exact id), if_neg e]
  · have h20 : ¬ zN 2 = zN 0 := by rw [zN_eq (by omega) (by omega)]; omega
    have h21 : ¬ zN 2 = zN 1 := by rw [zN_eq (by omega) (by omega)]; omega
    rw [if_neg h20, if_neg h21, if_pos rfl]
    show _ = some (if zknd P x = 3 then zopt (((zini P x).bind Prod.snd).bind (znam P)) else zopt (znam P x), m)
    by_cases e : zknd P x = 3
    · obtain ⟨a, de, a1, a2, a3⟩ := y4 (Or.inr e)
      obtain ⟨de', y, h1, h2⟩ := hx4.2.2.1 e
      rw [a2] at h1
      injection h1 with h1
      subst h1
      obtain ⟨b1, b2⟩ := a3.2.2.2 y h2
      have hyok := (hw3.2.1 de a2).2 y h2
      have hym := zmid_lt hwf hyok.1
      have hyn := (hm y hyok.1).1.2.1 (by omega)
      rw [if_pos (by rw [e]), if_pos e, zgr g9, zgr g9, a1, yo_act n88 a3.1 (by omega), zca, b2, yo_mem n88 (by omega) (by omega), zca, hyn, a2]
      show some (zopt (znam P y), m) = some (zopt (de.2.bind (znam P)), m)
      rw [h2]; rfl
    · rw [if_neg (by rw [zN_eq (by omega) (by omega)]; exact e), if_neg e, zgr g9, yo_mem n88 (by omega) (by omega), zca, y1 e]
  · have h20 : ¬ zN 3 = zN 0 := by rw [zN_eq (by omega) (by omega)]; omega
    have h21 : ¬ zN 3 = zN 1 := by rw [zN_eq (by omega) (by omega)]; omega
    have h22 : ¬ zN 3 = zN 2 := by rw [zN_eq (by omega) (by omega)]; omega
    rw [if_neg h20, if_neg h21, if_neg h22, if_pos rfl]
    show _ = some (if zknd P x = 4 then zN (zcl1 ((zfun P x).getLast?.elim [] Prod.fst)) else zN ((zini P x).elim 0 fun d => zcl1 d.1), m)
    rcases hkc with e | e | e | e | e
    · rw [e, if_pos rfl, if_neg (by omega), (y2 e).2.2]; rfl
    · have k2 : ¬ zN 1 = zN 2 := by rw [zN_eq (by omega) (by omega)]; omega
      have k3 : ¬ zN 1 = zN 3 := by rw [zN_eq (by omega) (by omega)]; omega
      rw [e, if_neg (by rw [zN10]; exact id), if_neg k2, if_neg k3, if_neg (by omega)]
      cases hini : zini P x with
      | none => rw [(y3 e).1 hini, hTn]; rfl
      | some de =>
        obtain ⟨f, f1, f2⟩ := (y3 e).2 de hini
        rw [f1, hT f de.1 f2]; rfl
    · obtain ⟨a, de, a1, a2, a3⟩ := y4 (Or.inl e)
      obtain ⟨f, f1, f2⟩ := a3.2.1
      have k0 : ¬ zN 2 = zN 0 := by rw [zN_eq (by omega) (by omega)]; omega
      rw [e, if_neg k0, if_pos rfl, if_neg (by omega), a1, a2]
      unfold fX9_member_199
      simp (disch := omega) only [zgr g9, zN_lit, yo_act n88 a3.1, zca, f1]
      rw [hT f de.1 f2]; rfl
    · obtain ⟨a, de, a1, a2, a3⟩ := y4 (Or.inr e)
      obtain ⟨f, f1, f2⟩ := a3.2.1
      rw [e, if_neg h20, if_neg h22, if_pos rfl, if_neg (by omega), a1, a2]
      unfold fX9_member_199
      simp (disch := omega) only [zgr g9, zN_lit, yo_act n88 a3.1, zca, f1]
      rw [hT f de.1 f2]; rfl
    · obtain ⟨f, a, l, g, p1, p2, p3, p4, p5, p6, p7⟩ := y5 e
      have k0 : ¬ zN 4 = zN 0 := by rw [zN_eq (by omega) (by omega)]; omega
      have k2 : ¬ zN 4 = zN 2 := by rw [zN_eq (by omega) (by omega)]; omega
      have k3 : ¬ zN 4 = zN 3 := by rw [zN_eq (by omega) (by omega)]; omega
      rw [e, if_neg k0, if_neg k2, if_neg k3, if_pos rfl, p1, hT f g p2, p7]
      simp
  · have h20 : ¬ zN 4 = zN 0 := by rw [zN_eq (by omega) (by omega)]; omega
    have h21 : ¬ zN 4 = zN 1 := by rw [zN_eq (by omega) (by omega)]; omega
    have h22 : ¬ zN 4 = zN 2 := by rw [zN_eq (by omega) (by omega)]; omega
    have h23 : ¬ zN 4 = zN 3 := by rw [zN_eq (by omega) (by omega)]; omega
    rw [if_neg h20, if_neg h21, if_neg h22, if_neg h23]
    show _ = some (if zknd P x = 3 then zopt (((zini P x).bind Prod.snd).map (· / 12)) else zopt (znum P x), m)
    rcases hkc with e | e | e | e | e
    · rw [e, if_pos rfl, if_neg (by omega), (y2 e).1]
    · have k3 : ¬ zN 1 = zN 3 := by rw [zN_eq (by omega) (by omega)]; omega
      have k4 : ¬ zN 1 = zN 4 := by rw [zN_eq (by omega) (by omega)]; omega
      rw [e, if_neg (by rw [zN10]; exact id), if_neg k3, if_neg k4, if_neg (by omega), hx4.1 (Or.inl e)]; rfl
    · have k0 : ¬ zN 2 = zN 0 := by rw [zN_eq (by omega) (by omega)]; omega
      have k3 : ¬ zN 2 = zN 3 := by rw [zN_eq (by omega) (by omega)]; omega
      have k4 : ¬ zN 2 = zN 4 := by rw [zN_eq (by omega) (by omega)]; omega
      rw [e, if_neg k0, if_neg k3, if_neg k4, if_neg (by omega), hx4.1 (Or.inr e)]; rfl
    · obtain ⟨a, de, a1, a2, a3⟩ := y4 (Or.inr e)
      obtain ⟨de', y, h1, h2⟩ := hx4.2.2.1 e
      rw [a2] at h1
      injection h1 with h1
      subst h1
      obtain ⟨b1, b2⟩ := a3.2.2.2 y h2
      have k0 : ¬ zN 3 = zN 0 := by rw [zN_eq (by omega) (by omega)]; omega
      rw [e, if_neg k0, if_pos rfl, if_pos rfl, zgr g9, a1, yo_act n88 a3.1 (by omega), zca, Nat.add_zero, b1, a2]
      show some (zN (y / 12), m) = some (zopt (de.2.map (· / 12)), m)
      rw [h2]; rfl
    · obtain ⟨f, a, l, g, p1, p2, p3, p4, p5, p6, p7⟩ := y5 e
      rw [e, if_neg h20, if_neg h23, if_pos rfl, if_neg (by omega), zgr g9, yo_mem n88 (by omega) (by omega), zca, p3, hx4.2.2.2.2 e, p7]
      simp [zopt]
theorem o_member (hC : jC N m c d S) (hM : jM N m S) (x y z : Int32) : jOp N (fwL_member N 0 x y z 111 m) (fX9_member N 85 x y z) := by
  have hW := hC.2.2.1
  have hwf := hW.1
  have hz := hwf.1
  obtain ⟨hUN, hUr, hc50, hc0⟩ := jC_UN hC
  have g3 := hC.2.1.2.1.2.2.1
  rcases u_memx hC x y with ⟨u, i, u1, i1, rfl, rfl, u3, u4⟩ | ⟨u1, u2⟩
  · have hcn := (hwf.2.1 u u1).1
    rcases u_what (N := N) (m := m) (l := 4) (by omega) z with ⟨w, w1, rfl, w3, w4⟩ | ⟨w1, w2⟩
    · have hok := zplc_ok hwf u1 (i := i) i1
      have h84 := zok_84 hwf hok
      obtain ⟨⟨q0, q1⟩, q2, q3, q4⟩ := u_member (N := N) hW hUN hUr hC.2.2.2.1.1 hok
      have hp := hC.2.2.2.1.1.2.2.2.2.1 u i u1 i1
      have hmA : fX6_memberAt N c (zN u) (zN i) m = some (zN (12 * u + zplc (jP S) u i), m) := by
        obtain ⟨-, -, -, -, -, -, -, -, u9, -⟩ := hUN
        obtain ⟨-, -, -, -, -, -, -, -, r9, -⟩ := hUr
        unfold fX6_memberAt
        simp (disch := omega) only [zgr r9, zv, zN_lit, zN_mul, zN_add, zald]
        rw [show u * 12 + i = 12 * u + i by omega, hp]
      obtain ⟨-, -, -, n4, -, -, -, n8, -⟩ := hUN
      obtain ⟨-, -, -, r4, -, -, -, r8, -⟩ := hUr
      have hw5 : w = 0 ∨ w = 1 ∨ w = 2 ∨ w = 3 ∨ w = 4 := by omega
      refine jOp_ok (v := zmt (jP S) (12 * u + zplc (jP S) u i) w) (m1 := m) hM ?_ hC (jfc_rf m) (fun m2 hm2 _ => y_fresh hm2 (fun h0 => ⟨_, ?_, h0.1, jfm_rf _, h0.2⟩))
      · unfold fwL_member
        refine u_fw hC.1 ?_ ?_
        · unfold fxX8_member
          simp (disch := omega) only [u4, u3, xcx, zcv, zN_lit, w4, w3, zgr g3, hmA, zca, zgr r4, zgr r8, zald, q2, q3, q4, ite_self]
        · unfold fX8_member
          simp (disch := omega) only [u3, zcv, zN_lit, w3, zgr g3, hmA, zca, zgr r4, zgr r8, zald, q0, q1, q2, q3, q4, zN_eq]
          rcases hw5 with rfl | rfl | rfl | rfl | rfl <;> rfl
      · unfold fX9_member fX9_member_20 fX9_member_43
        simp only [zv, zN_lit, y_m1 h0.1 u1 i1, zca, zN10, if_false, jM_bad0 h0, if_true, y_in1 (show 4 < 2147483647 by omega) w1, zneg]
        exact y_member hW (jM_U h0.1) u1 i1 w1 (fun _ _ => none)
    · refine jOp_A (k := 2) (w := zN 0) hC hM (by omega) (by omega) ?_ (fun h0 => ?_)
      · unfold fwL_member
        rw [u_fwx (E := xIA) (m1 := ubA m)]
        · simp only [xIN, if_false, if_true]; rfl
        · unfold fxX8_member
          simp only [u4, u3, xcx, zcv, zN_lit, w2]
      · unfold fX9_member fX9_member_20 fX9_member_43
        simp only [zv, zN_lit, y_m1 h0.1 u1 i1, zca, zN10, if_false, jM_bad0 h0, if_true, y_in0 (show 4 < 2147483647 by omega) w1, jM_bad1 h0 (show 1 ≤ 2 by omega) (by omega) (show 1 < 2 by omega)]
  · refine jOp_E (k := 1) (w := zN 0) hC hM (by omega) (by omega) ?_ (fun h0 => ?_)
    · unfold fwL_member
      rw [u_fwx (E := xNS) (m1 := ubE m)]
      · rw [if_pos rfl]; rfl
      · unfold fxX8_member
        simp only [u2, xcx]
    · unfold fX9_member fX9_member_20
      simp only [zv, zN_lit, y_m0 h0.1 u1, zca, if_true, jM_bad1 h0 (show 1 ≤ 1 by omega) (by omega) (show 0 < 2 by omega), zN10, if_false]
end UI
