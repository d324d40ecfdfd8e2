/-! ===== z: the class's run: the group as a whole ===== -/
section ZR
variable {N : Nat → Nat} {t : Bool} {r c k : Nat} {P : zP} {R : Nat → Nat → Int32 → Int32 → XM → Option (Int32 × XM)} {T C : Nat → zS → zR}
theorem zQ_nb {m : XM} {K : Nat} {res : zR} {vf : Prop} {o : Option (Int32 × XM)} (h : zQ t m r P K res vf o) : zQ t m r P K res vf (xca o fun v m' => xnb v (some (v, m'))) := by
  obtain ⟨b, m', rfl, q2, q3, q4, q5, q6⟩ := h
  refine ⟨b, m', ?_, q2, q3, q4, q5, q6⟩
  have hb : b = zN 0 ∨ b = zN 1 := by
    have : res.1 = 0 ∨ res.1 = 1 ∨ res.1 = 2 := by omega
    rcases this with g | g | g
    · exact Or.inr (q4 g).1
    · exact Or.inl (q5 g).1
    · exact Or.inl (q6 g).1
  rcases hb with rfl | rfl <;> rfl
/-- touching a unit, B being what a new one does -/
theorem zq_touch {u : Nat} {m : XM} {s : zS} {B : zR} (hu : u < zn P) (hU : zU N m r c P) (h : zCR t m r P s) (hB : zst s u = 0 → zQ t m r P (8 * ((zopn s).length + 1)) B False (R 1 r (zN u) (zN 0) m)) :
    zQ t m r P (8 * ((zopn s).length + 1)) (if zst s u = 0 then B else if zst s u = 3 then (1, 0, zs_fl s (2, zN u, 0)) else (0, 0, s)) False (fX2_touchUnit N R r (zN u) m) := by
  have hU0 := hU
  obtain ⟨-, ⟨n1, -⟩, hdis, hwf, -, -, ⟨g0, g1, -⟩⟩ := hU
  have hz := hwf.1
  have h3 := h.1.1 u
  have hst := h.2.1.1 u (by omega)
  unfold fX2_touchUnit fX2_touchUnit_34
  simp (disch := omega) only [zgr g1, zald, hst, zN_lit, zN_eq]
  by_cases e0 : zst s u = 0
  · rw [if_pos e0, if_pos e0]
    exact zQ_nb (hB e0)
  · rw [if_neg e0, if_neg e0]
    by_cases e3 : zst s u = 3
    · rw [if_pos e3, if_pos e3]
      obtain ⟨m', p1, p2, p3⟩ := zc_failAll 2 (zN u) hU0 h
      rw [p1]
      exact ⟨_, _, rfl, p2, (by show 1 ≤ 2; omega), fun g => (by cases g), fun _ => ⟨rfl, p3.2.1, p3.2.2⟩, fun g => (by cases g)⟩
    · rw [if_neg e3, if_neg e3]
      exact zQ_ok (zfq_rf r m) h.2.1 h.2.2 (fun _ _ => rfl) (fun g => g.elim)
theorem zq_dos (h3 : zQD N t r c P k R T C) (iT : zIT P k T) (iC : zIC P k C) (oT : zKo T) (oC : zKo C) {x gv : Nat} {o : List Nat} (hx : x % 100 ≠ 99) (hgv : gv < 2000) : ∀ (l : List zDeed) (n d : Nat) (v : Int32) (m : XM) (s : zS), l.length < n → d + l.length = gv + 1 → (∀ e ∈ l, zdok P e) → (∀ e, l.getLast? = some e → e.2 = none) → (l = [] → gi m r 10 = v) → zdats m c d l → zU N m r c P → zCR t m r P s → (zopn s).length + k = 20 → zopn s = x :: o →
    zQ t m r P (8 * (zopn s).length) (zPop (zDos P T C l v s)) True (fX2_callFunction_56 N R n r (zN gv) (zN d) m) := by
  intro l
  induction l with
  | nil =>
    intro n d v m s hn hd hok hla hv hdat hU h ho hop
    obtain ⟨n, rfl⟩ : ∃ k, n = k + 1 := ⟨n - 1, by simp at hn; omega⟩
    simp only [List.length_nil] at hd
    have h7 := h.2.2.1
    unfold fX2_callFunction_56
    simp (disch := omega) only [zv, zN_lt, zN_lit, h7]
    rw [if_pos (by omega), hop, List.length_cons, ztopS]
    have e : zPop (zDos P T C [] v s) = (0, v, zs_opn s o) := by
      show (0, v, zs_opn s (zopn s).tail) = _
      rw [hop]; rfl
    rw [e]
    refine zQ_ok (zfq_si (zfq_rf r m) (by omega) (by omega)) (zCr_op (Or.inl rfl) h.2.1) ⟨gi_si _ _ _ _, ?_, ?_⟩ (fun j _ => gi_ne (by omega)) (fun _ => by rw [gi_ne (by omega)]; exact hv rfl)
    · have := h.2.2.2.1
      rw [hop] at this
      exact zstk_o (by omega) this.2
    · rw [gi_ne (by omega)]; exact h.2.2.2.2
  | cons e l ih =>
    intro n d v m s hn hd hok hla hv hdat hU h ho hop
    simp only [List.length_cons] at hn hd
    obtain ⟨n, rfl⟩ : ∃ k, n = k + 1 := ⟨n - 1, by omega⟩
    have hwf := hU.2.2.2.1
    obtain ⟨d1, d2⟩ := hdat
    have hI := zI_do hwf iT iC oT oC (hok e List.mem_cons_self) h.1 ho
    unfold fX2_callFunction_56
    simp (disch := omega) only [zv, zN_lt, zN_lit]
    rw [if_neg (by omega)]
    show zQ t m r P (8 * (zopn s).length) (zPop (zbind (zDo P T C e s) fun v s1 => zDos P T C l v s1)) True _
    refine zQ_bindF (F := zPop) (vf := True) (h3 m s e d (hok e List.mem_cons_self) d1 hU h ho) (Nat.le_refl _) (fun m1 e0 f1 r1 o1 k1 w1 => ?_) (fun m1 => by simp only [if_true]) (fun hne o' q => zQ_popF q hne hx (fun g => (zKo_do oT oC e s g).trans hop))
    have ho1 : zopn (zDo P T C e s).2.2 = zopn s := zKo_do oT oC e s (by omega)
    simp only [zN10, if_false, zN_add]
    have := ih n (d + 1) (zDo P T C e s).2.1 m1 _ (by omega) (by omega) (fun y hy => hok y (List.mem_cons_of_mem _ hy)) (fun y hy => hla y (by
      cases l with
      | nil => cases hy
      | cons a b => rw [List.getLast?_cons_cons]; exact hy)) (fun hl => w1 (hla e (by rw [hl]; rfl))) (zdats_q hU f1 d2) (zU_q hU f1) ⟨hI.1, r1, o1⟩ (by rw [ho1]; exact ho) (ho1.trans hop)
    rwa [ho1] at this
theorem zq_call (h3 : zQD N t r c P k R T C) (iT : zIT P k T) (iC : zIC P k C) (oT : zKo T) (oC : zKo C) {x : Nat} {m : XM} {s : zS} (hx : zok P x) (hxk : zknd P x = 4) (hU : zU N m r c P) (h : zCR t m r P s) (ho : (zopn s).length + (k + 1) = 20) :
    zQ t m r P (8 * ((zopn s).length + 1)) (zPop (zDos P T C (zfun P x) 0 (zs_opn s ((x / 12 * 100 + (znam P x).getD 0) :: zopn s)))) True (fX2_callFunction N R r (zN x) m) := by
  have hU0 := hU
  obtain ⟨⟨-, -, -, -, u5, u6, u7, -⟩, -, hdis, hwf, ⟨-, -, -, -, r5, r6, r7, -⟩, ⟨-, -, -, hd4, -, hd6, -⟩, ⟨g0, -⟩⟩ := hU
  have h84 := zok_84 hwf hx
  have hz := hwf.1
  have hx3 := hwf.2.2.1 x hx
  obtain ⟨-, ⟨l0, dl, hl0⟩, hnm⟩ := hx3.2.2.2.1 hxk
  obtain ⟨y, hy⟩ := Option.isSome_iff_exists.mp hnm
  have hy26 := hx3.2.2.2.2.2 y hy
  have e5 := (hd4 x hx).2.1
  rw [hy] at e5
  have e6 := (hd4 x hx).2.2.1
  obtain ⟨d, q1, q2, q3⟩ := (hd6 x hx).2 hxk
  rw [q3] at e6
  have hlen : (zfun P x).length = l0.length + 1 := by rw [hl0]; simp
  have hd300 : d + (zfun P x).length ≤ 300 := by
    have key : ∀ (l : List zDeed) (d : Nat), zdats m c d l → l ≠ [] → d + l.length ≤ 300 := by
      intro l
      induction l with
      | nil => intro d _ h; exact absurd rfl h
      | cons e l ih =>
        intro d hd _
        by_cases he : l = []
        · subst he; have := hd.1.1; simp; omega
        · have := ih (d + 1) hd.2 he; simp; omega
    exact key _ _ q2 (by rw [hl0]; simp)
  simp only [zopt] at e5 e6
  unfold fX2_callFunction
  have hX := zXF
  revert hX
  generalize XF = nf
  intro hX
  simp (disch := omega) only [zv, zN_lit, zdv, zN_div, zN_mul, zgr g0, zgr r5, zald, e5, zN_add]
  rw [zc_openUp hU0 h, if_pos (by omega)]
  have f1 : zfq r m (si (si m (r + 9) (zopn s).length (zN (x / 12 * 100 + y))) r 7 (zN ((zopn s).length + 1))) := zfq_si (zfq_si (zfq_rf r m) (by omega) (by omega)) (by omega) (by omega)
  have hU1 := zU_q hU0 f1
  have e7 : ∀ a j, c ≤ a → a < c + 18 → gi (si (si m (r + 9) (zopn s).length (zN (x / 12 * 100 + y))) r 7 (zN ((zopn s).length + 1))) a j = gi m a j := fun a j p1 p2 => (f1.1 a (by omega)).1 j
  simp (disch := omega) only [zca, zN10, if_false, zgr_si, zgr g0, zgr r7, zgr r6, zald, e7, q1, e6, zN_add, gi_ne]
  rw [hy]
  simp only [Option.getD_some]
  have hR1 : zCR t (si (si m (r + 9) (zopn s).length (zN (x / 12 * 100 + y))) r 7 (zN ((zopn s).length + 1))) r P (zs_opn s ((x / 12 * 100 + y) :: zopn s)) := by
    refine ⟨zSi_opn h.1 (by show (zopn s).length + 1 ≤ 20; omega) (fun z hz' => ?_), zCr_op (Or.inl rfl) (zCr_oc (Or.inl rfl) h.2.1), gi_si _ _ _ _, ⟨?_, zstk_o (by omega) (zstk_ge (Nat.le_refl _) h.2.2.2.1)⟩, ?_⟩
    · rcases List.mem_cons.mp hz' with e | e
      · omega
      · exact h.1.2.2.1 z e
    · rw [gi_ne (by omega), gi_si]
    · rw [gi_ne (by omega), gi_ne (by omega)]; exact h.2.2.2.2
  refine zQ_pre f1 (fun j _ => by rw [gi_ne (by omega), gi_ne (by omega)]) ?_
  exact zq_dos h3 iT iC oT oC (x := x / 12 * 100 + y) (gv := d + ((zfun P x).length - 1)) (by omega) (by omega) (zfun P x) nf d 0 _ (zs_opn s ((x / 12 * 100 + y) :: zopn s)) (by omega) (by omega) hx3.2.2.1 (fun e he => by
    rw [hl0] at he
    simp at he
    rw [← he]) (fun hl => by rw [hl0] at hl; simp at hl) (zdats_q hU0 f1 q2) hU1 hR1 (by show (zopn s).length + 1 + k = 20; omega) rfl
theorem zq_call0 {x : Nat} {m : XM} {s : zS} (hx : zok P x) (hxk : zknd P x = 4) (hU : zU N m r c P) (h : zCR t m r P s) (ho : (zopn s).length = 20) : zQ t m r P (8 * ((zopn s).length + 1)) (2, 0, s) True (fX2_callFunction N R r (zN x) m) := by
  have hU0 := hU
  obtain ⟨⟨-, -, -, -, u5, u6, u7, -⟩, -, hdis, hwf, ⟨-, -, -, -, r5, r6, r7, -⟩, ⟨-, -, -, hd4, -, hd6, -⟩, ⟨g0, -⟩⟩ := hU
  have h84 := zok_84 hwf hx
  have hx3 := hwf.2.2.1 x hx
  obtain ⟨-, -, hnm⟩ := hx3.2.2.2.1 hxk
  obtain ⟨y, hy⟩ := Option.isSome_iff_exists.mp hnm
  have e5 := (hd4 x hx).2.1
  rw [hy] at e5
  simp only [zopt] at e5
  unfold fX2_callFunction
  simp (disch := omega) only [zv, zN_lit, zdv, zN_div, zN_mul, zgr g0, zgr r5, zald, e5, zN_add]
  rw [zc_openUp hU0 h, if_neg (by omega)]
  simp only [zca, if_true]
  exact zQ_much h
end ZR
theorem zgE (N : Nat → Nat) (e t q : Nat) (x0 x1 : Int32) (m : XM) : gX2_touchUnit N (e + 1) t q x0 x1 m = if t = 0 then fX2_touchUnit N (gX2_touchUnit N e) q x0 m else if t = 1 then fX2_beginUnit N (gX2_touchUnit N e) q x0 m else if t = 2 then fX2_doMember N (gX2_touchUnit N e) q x0 m else if t = 3 then fX2_doDeed N (gX2_touchUnit N e) q x0 m else if t = 4 then fX2_setVariable N (gX2_touchUnit N e) q x0 x1 m else if t = 5 then fX2_workOut N (gX2_touchUnit N e) q x0 m else if t = 6 then fX2_workOutTerm N (gX2_touchUnit N e) q x0 x1 m else if t = 7 then fX2_callFunction N (gX2_touchUnit N e) q x0 m else none := by
  rw [gX2_touchUnit, zv]
theorem zgE0 (N : Nat → Nat) (e q : Nat) (x0 x1 : Int32) (m : XM) : gX2_touchUnit N (e + 1) 0 q x0 x1 m = fX2_touchUnit N (gX2_touchUnit N e) q x0 m := by
  rw [zgE, if_pos rfl]
theorem zgE1 (N : Nat → Nat) (e q : Nat) (x0 x1 : Int32) (m : XM) : gX2_touchUnit N (e + 1) 1 q x0 x1 m = fX2_beginUnit N (gX2_touchUnit N e) q x0 m := by
  rw [zgE, if_neg (by omega), if_pos rfl]
theorem zgE2 (N : Nat → Nat) (e q : Nat) (x0 x1 : Int32) (m : XM) : gX2_touchUnit N (e + 1) 2 q x0 x1 m = fX2_doMember N (gX2_touchUnit N e) q x0 m := by
  rw [zgE, if_neg (by omega), if_neg (by omega), if_pos rfl]
theorem zgE3 (N : Nat → Nat) (e q : Nat) (x0 x1 : Int32) (m : XM) : gX2_touchUnit N (e + 1) 3 q x0 x1 m = fX2_doDeed N (gX2_touchUnit N e) q x0 m := by
  rw [zgE, if_neg (by omega), if_neg (by omega), if_neg (by omega), if_pos rfl]
theorem zgE4 (N : Nat → Nat) (e q : Nat) (x0 x1 : Int32) (m : XM) : gX2_touchUnit N (e + 1) 4 q x0 x1 m = fX2_setVariable N (gX2_touchUnit N e) q x0 x1 m := by
  rw [zgE, if_neg (by omega), if_neg (by omega), if_neg (by omega), if_neg (by omega), if_pos rfl]
theorem zgE5 (N : Nat → Nat) (e q : Nat) (x0 x1 : Int32) (m : XM) : gX2_touchUnit N (e + 1) 5 q x0 x1 m = fX2_workOut N (gX2_touchUnit N e) q x0 m := by
  rw [zgE, if_neg (by omega), if_neg (by omega), if_neg (by omega), if_neg (by omega), if_neg (by omega), if_pos rfl]
theorem zgE6 (N : Nat → Nat) (e q : Nat) (x0 x1 : Int32) (m : XM) : gX2_touchUnit N (e + 1) 6 q x0 x1 m = fX2_workOutTerm N (gX2_touchUnit N e) q x0 x1 m := by
  rw [zgE, if_neg (by omega), if_neg (by omega), if_neg (by omega), if_neg (by omega), if_neg (by omega), if_neg (by omega), if_pos rfl]
theorem zgE7 (N : Nat → Nat) (e q : Nat) (x0 x1 : Int32) (m : XM) : gX2_touchUnit N (e + 1) 7 q x0 x1 m = fX2_callFunction N (gX2_touchUnit N e) q x0 m := by
  rw [zgE, if_neg (by omega), if_neg (by omega), if_neg (by omega), if_neg (by omega), if_neg (by omega), if_neg (by omega), if_neg (by omega), if_pos rfl]
/-- from touches and calls at e on, all the rest of a level -/
theorem zg_rest {N : Nat → Nat} {t : Bool} {r c k e0 : Nat} {P : zP} (hw : zwf P) (h : ∀ e, e0 ≤ e → zQT N t r c P k (gX2_touchUnit N e) (zL P k).1 ∧ zQC N t r c P k (gX2_touchUnit N e) (zL P k).2) :
    (∀ e, e0 + 3 ≤ e → zQD N t r c P k (gX2_touchUnit N e) (zL P k).1 (zL P k).2) ∧ (∀ e, e0 + 4 ≤ e → zQM N t r c P k (gX2_touchUnit N e) (zL P k).1 (zL P k).2) := by
  obtain ⟨iT, iC⟩ := zI_L hw k
  obtain ⟨oT, oC⟩ := zKo_L P k
  have h6 : ∀ e, e0 + 1 ≤ e → zQE N t r c P k (gX2_touchUnit N e) (zL P k).1 (zL P k).2 := by
    intro e he m s q q1 q2 q3 q4 hU hR ho
    obtain ⟨e, rfl⟩ : ∃ j, e = j + 1 := ⟨e - 1, by omega⟩
    rw [zgE6]; exact zq_term (h e (by omega)).1 (h e (by omega)).2 iT oT q1 q2 q3 q4 hU hR ho
  have h5 : ∀ e, e0 + 2 ≤ e → zQW N t r c P k (gX2_touchUnit N e) (zL P k).1 (zL P k).2 := by
    intro e he m s d dk hd hdat hU hR ho
    obtain ⟨e, rfl⟩ : ∃ j, e = j + 1 := ⟨e - 1, by omega⟩
    rw [zgE5]; exact zq_workOut (h6 e (by omega)) iT iC oT oC hd hdat hU hR ho
  have h4 : ∀ e, e0 + 1 ≤ e → zQS N t r c P k (gX2_touchUnit N e) (zL P k).1 := by
    intro e he m s x v hx hxk hU hR ho
    obtain ⟨e, rfl⟩ : ∃ j, e = j + 1 := ⟨e - 1, by omega⟩
    rw [zgE4]; exact zq_set (h e (by omega)).1 iT hx hxk hU hR ho
  have h3 : ∀ e, e0 + 3 ≤ e → zQD N t r c P k (gX2_touchUnit N e) (zL P k).1 (zL P k).2 := by
    intro e he m s d dk hd hdat hU hR ho
    obtain ⟨e, rfl⟩ : ∃ j, e = j + 1 := ⟨e - 1, by omega⟩
    rw [zgE3]; exact zq_do (h5 e (by omega)) (h4 e (by omega)) iT iC oT oC hd hdat hU hR ho
  refine ⟨h3, fun e he m s x hx hon hU hR ho => ?_⟩
  obtain ⟨e, rfl⟩ : ∃ j, e = j + 1 := ⟨e - 1, by omega⟩
  rw [zgE2]; exact zq_mem (h3 e (by omega)) hx hon hU hR ho
theorem zg_all {N : Nat → Nat} {t : Bool} {r c : Nat} {P : zP} (hw : zwf P) : ∀ k e, 8 * k + 2 ≤ e → zQT N t r c P k (gX2_touchUnit N e) (zL P k).1 ∧ zQC N t r c P k (gX2_touchUnit N e) (zL P k).2
  | 0, e, he => by
    obtain ⟨e, rfl⟩ : ∃ j, e = j + 2 := ⟨e - 2, by omega⟩
    refine ⟨fun m s u hu hU hR ho => ?_, fun m s x hx hxk hU hR ho => ?_⟩
    · rw [zgE0]; exact zq_touch (R := gX2_touchUnit N (e + 1)) hu hU hR (fun _ => by rw [zgE1]; exact zq_begin0 hU hR (by omega))
    · rw [zgE7]; exact zq_call0 hx hxk hU hR (by omega)
  | k + 1, e, he => by
    obtain ⟨e, rfl⟩ : ∃ j, e = j + 2 := ⟨e - 2, by omega⟩
    obtain ⟨iT, iC⟩ := zI_L hw k
    obtain ⟨oT, oC⟩ := zKo_L P k
    have ih := zg_all (N := N) (t := t) (r := r) (c := c) hw k
    obtain ⟨h3, h2⟩ := zg_rest hw ih
    refine ⟨fun m s u hu hU hR ho => ?_, fun m s x hx hxk hU hR ho => ?_⟩
    · rw [zgE0]; exact zq_touch (R := gX2_touchUnit N (e + 1)) hu hU hR (fun h0 => by rw [zgE1]; exact zq_begin (ih e (by omega)).1 (h2 e (by omega)) iT iC oT oC hu hU hR h0 ho)
    · rw [zgE7]; exact zq_call (h3 (e + 1) (by omega)) iT iC oT oC hx hxk hU hR ho
theorem zg_do {N : Nat → Nat} {t : Bool} {r c : Nat} {P : zP} (hw : zwf P) : zQD N t r c P 20 (gX2_touchUnit N 200) (zL P 20).1 (zL P 20).2 := (zg_rest hw (zg_all hw 20)).1 200 (by omega)
theorem zg_touch {N : Nat → Nat} {t : Bool} {r c : Nat} {P : zP} (hw : zwf P) : zQT N t r c P 20 (gX2_touchUnit N 200) (zL P 20).1 := (zg_all hw 20 200 (by omega)).1
