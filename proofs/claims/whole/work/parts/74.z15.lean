/-! ===== z: main ===== -/
def zsq (s : zS) : Nat × Nat := (zsp s, zfs s)
def zKs (T : Nat → zS → zR) : Prop := ∀ u s, zsq (T u s).2.2 = zsq s
theorem zKs_bind {r : zR} {k : Int32 → zS → zR} {x : Nat × Nat} (h1 : zsq r.2.2 = x) (h2 : r.1 = 0 → zsq (k r.2.1 r.2.2).2.2 = zsq r.2.2) : zsq (zbind r k).2.2 = x := by
  by_cases h0 : r.1 = 0
  · rw [zbind_p h0, h2 h0, h1]
  · rw [zbind_n h0, h1]
section ZKS
variable {P : zP} {T C : Nat → zS → zR}
theorem zKs_note (x : Nat) (s : zS) : zsq (zNote P x s) = zsq s := by
  unfold zNote; split <;> rfl
theorem zKs_term (hT : zKs T) (hC : zKs C) (c : zCode) (s : zS) : zsq (zTerm P T C c s).2.2 = zsq s := by
  unfold zTerm
  split
  · split
    · rfl
    · split
      · exact zKs_bind (hT _ _) (fun _ => zKs_note _ _)
      · split
        · exact zKs_bind (hT _ _) (fun _ => hC _ _)
        · rfl
  · rfl
theorem zKs_ev (hT : zKs T) (hC : zKs C) : ∀ (l : List zCode) (v : List Int32) (s : zS), zsq (zEv P T C l v s).2.2 = zsq s
  | [], _, _ => rfl
  | c :: cs, v, s => by
    unfold zEv
    split
    · exact zKs_ev hT hC cs _ s
    · exact zKs_bind (zKs_term hT hC c s) (fun _ => zKs_ev hT hC cs _ _)
theorem zKs_do (hT : zKs T) (hC : zKs C) (d : zDeed) (s : zS) : zsq (zDo P T C d s).2.2 = zsq s := by
  unfold zDo
  refine zKs_bind (zKs_ev hT hC _ _ _) (fun _ => ?_)
  cases d.2 with
  | none => rfl
  | some m =>
    refine zKs_bind (hT _ _) (fun _ => ?_)
    split <;> rfl
theorem zKs_dos (hT : zKs T) (hC : zKs C) : ∀ (l : List zDeed) (v : Int32) (s : zS), zsq (zDos P T C l v s).2.2 = zsq s
  | [], _, _ => rfl
  | d :: ds, v, s => by
    unfold zDos
    exact zKs_bind (zKs_do hT hC d s) (fun _ => zKs_dos hT hC ds _ _)
theorem zKs_mem (hT : zKs T) (hC : zKs C) (x : Nat) (s : zS) : zsq (zMem P T C x s).2.2 = zsq s := by
  unfold zMem
  split
  · cases zini P x with
    | none => rfl
    | some d =>
      refine zKs_bind (zKs_do hT hC d s) (fun _ => ?_)
      by_cases e : zknd P x = 1
      · rw [if_pos e]; rfl
      · rw [if_neg e]
  · rfl
theorem zKs_mems (hT : zKs T) (hC : zKs C) : ∀ (l : List Nat) (s : zS), zsq (zMems P T C l s).2.2 = zsq s
  | [], _ => rfl
  | x :: xs, s => by
    unfold zMems
    exact zKs_bind (zKs_mem hT hC x s) (fun _ => zKs_mems hT hC xs _)
end ZKS
theorem zKs_close (u : Nat) (r : zR) : zsq (zClose u r).2.2 = zsq r.2.2 := by
  unfold zClose
  split
  · rfl
  · split <;> rfl
theorem zKs_L (P : zP) : ∀ k, zKs (zL P k).1 ∧ zKs (zL P k).2
  | 0 => by
    refine ⟨fun u s => ?_, fun _ _ => rfl⟩
    show zsq (if zst s u = 0 then _ else _ : zR).2.2 = _
    split
    · rfl
    · split <;> rfl
  | k + 1 => by
    obtain ⟨hT, hC⟩ := zKs_L P k
    refine ⟨fun u s => ?_, fun x s => ?_⟩
    · show zsq (if zst s u = 0 then _ else _ : zR).2.2 = _
      split
      · split
        · rw [zKs_close]
          refine zKs_bind ?_ (fun _ => zKs_mems hT hC _ _)
          split
          · rfl
          · exact hT _ _
        · rfl
      · split <;> rfl
    · show zsq (zPop _).2.2 = _
      unfold zPop
      split
      · exact zKs_dos hT hC _ _ _
      · exact zKs_dos hT hC _ _ _
theorem zSteps_ok {P : zP} (hw : zwf P) : ∀ (l : List zDeed) (s : zS), (∀ d ∈ l, zdok P d) → zSi P s → zopn s = [] → zsp s + l.length ≤ 10 → zSi P (zSteps P l s).2 ∧ ((zSteps P l s).1 = false → zopn (zSteps P l s).2 = [])
  | [], s, _, h, ho, _ => ⟨h, fun _ => ho⟩
  | d :: ds, s, hd, h, ho, hsp => by
    obtain ⟨iT, iC⟩ := zI_L hw 20
    obtain ⟨oT, oC⟩ := zKo_L P 20
    obtain ⟨sT, sC⟩ := zKs_L P 20
    have hI := zI_do hw iT iC oT oC (hd d List.mem_cons_self) h (by rw [ho]; rfl)
    have hS : zsq (zDo P (zL P 20).1 (zL P 20).2 d s).2.2 = zsq s := zKs_do sT sC d s
    have hO := zKo_do (P := P) oT oC d s
    unfold zSteps
    have hI1 : zSi P (zDo P (zL P 20).1 (zL P 20).2 d s).2.2 := hI.1
    generalize zDo P (zL P 20).1 (zL P 20).2 d s = r at hS hO hI1 ⊢
    have hs1 : zsp r.2.2 = zsp s := congrArg Prod.fst hS
    simp only [List.length_cons] at hsp
    by_cases e2 : r.1 = 2
    · rw [if_pos e2]
      exact ⟨zSi_sp hI1 (by omega), fun g => by cases g⟩
    · rw [if_neg e2]
      refine zSteps_ok hw ds _ (fun e he => hd e (List.mem_cons_of_mem _ he)) ?_ ?_ ?_
      · refine zSi_sp ?_ (by omega)
        split
        · exact hI1
        · exact hI1
      · have : zopn r.2.2 = [] := (hO e2).trans ho
        show zopn (if r.1 = 1 then zs_fs r.2.2 (zfs r.2.2 + 1) else r.2.2) = []
        split
        · exact this
        · exact this
      · show zsp r.2.2 + 1 + ds.length ≤ 10
        omega
section ZX
variable {N : Nat → Nat} {t : Bool} {r c : Nat} {P : zP}
theorem zc_runMain_5 (hw : zwf P) : ∀ (l : List zDeed) (n : Nat) (pre : List zDeed) (m : XM) (s : zS), l.length < n → zstp P = pre ++ l → zsp s = pre.length → zU N m r c P → zCR t m r P s → zopn s = [] →
    ∃ m', fX2_runMain_5 N n r m = some m' ∧ zfq r m m' ∧ zFin t m' r P (zSteps P l s) := by
  intro l
  induction l with
  | nil =>
    intro n pre m s hn hl hp hU h ho
    obtain ⟨n, rfl⟩ : ∃ k, n = k + 1 := ⟨n - 1, by simp at hn; omega⟩
    obtain ⟨-, -, hdis, -, -, ⟨-, hd2, -⟩, ⟨g0, -⟩⟩ := hU
    have h16 := h.2.1.2.2.2.2.2.2.2.2.2.1
    have hle := hw.2.2.2.1
    have hpl : pre.length = (zstp P).length := by rw [hl]; simp
    refine ⟨m, ?_, zfq_rf r m, h.1, h.2.1, h.2.2.2.2, fun _ => ⟨h.2.2, ho⟩⟩
    unfold fX2_runMain_5
    simp (disch := omega) only [zv, h16, zgr g0, hd2, zN_le]
    rw [if_pos (by omega)]
  | cons d l ih =>
    intro n pre m s hn hl hp hU h ho
    simp only [List.length_cons] at hn
    obtain ⟨n, rfl⟩ : ∃ k, n = k + 1 := ⟨n - 1, by omega⟩
    have hU0 := hU
    obtain ⟨⟨-, -, -, -, -, -, -, -, -, -, u11, -⟩, -, hdis, -, ⟨-, -, -, -, -, -, -, -, -, -, r12, -⟩, ⟨-, hd2, -, -, -, -, hd7⟩, ⟨g0, -⟩⟩ := hU
    have h16 := h.2.1.2.2.2.2.2.2.2.2.2.1
    have hle := hw.2.2.2.1
    have hlen : (zstp P).length = pre.length + (l.length + 1) := by rw [hl]; simp
    have hget : (zstp P)[pre.length]? = some d := by rw [hl]; simp
    obtain ⟨j, hj1, hj2⟩ := hd7 _ _ hget
    have hdk := hw.2.2.2.2 d (by rw [hl]; simp)
    obtain ⟨iT, iC⟩ := zI_L hw 20
    obtain ⟨oT, oC⟩ := zKo_L P 20
    obtain ⟨sT, sC⟩ := zKs_L P 20
    have hI : zSi P (zDo P (zL P 20).1 (zL P 20).2 d s).2.2 := (zI_do hw iT iC oT oC hdk h.1 (by rw [ho]; rfl)).1
    have hS : zsq (zDo P (zL P 20).1 (zL P 20).2 d s).2.2 = zsq s := zKs_do sT sC d s
    have hO := zKo_do (P := P) oT oC d s
    have hQ := zg_do (N := N) (t := t) (r := r) (c := c) hw m s d j hdk hj2 hU0 h (by rw [ho]; rfl)
    rw [hp] at h16
    have h15 := h.2.2.2.2
    unfold fX2_runMain_5 fX2_runMain_62
    simp (disch := omega) only [zv, h16, zgr g0, hd2, zN_le, h15, zN_lit, if_true, zgr r12, zald, hj1]
    rw [if_neg (by omega)]
    have hst := zSteps_c P d l s
    generalize zDo P (zL P 20).1 (zL P 20).2 d s = res at hI hS hO hQ hst
    obtain ⟨b, m1, q1, q2, q3, q4, q5, q6⟩ := hQ
    have hU1 := zU_q hU0 q2
    have hs1 : zsp res.2.2 = pre.length := (congrArg Prod.fst hS).trans hp
    simp only [q1, zca]
    have hl' : zstp P = (pre ++ [d]) ++ l := by rw [hl]; simp
    have hfin : ∀ (m2 : XM) (s2 : zS), zfq r m m2 → zU N m2 r c P → zCR t m2 r P s2 → zopn s2 = [] → zsp s2 = pre.length → ∃ m', (fX2_runMain_5 N n r (si m2 r 16 (gi m2 r 16 + zN 1))) = some m' ∧ zfq r m m' ∧ zFin t m' r P (zSteps P l (zs_sp s2 (zsp s2 + 1))) := by
      intro m2 s2 f2 hU2 hR2 ho2 hp2
      have h16' := hR2.2.1.2.2.2.2.2.2.2.2.2.1
      rw [h16', zN_add]
      have f3 : zfq r m2 (si m2 r 16 (zN (zsp s2 + 1))) := zfq_si (zfq_rf r m2) (by omega) (by omega)
      obtain ⟨m', w1, w2, w3⟩ := ih n (pre ++ [d]) (si m2 r 16 (zN (zsp s2 + 1))) (zs_sp s2 (zsp s2 + 1)) (by omega) hl' (by show zsp s2 + 1 = _; simp; omega) (zU_q hU2 f3) ⟨zSi_sp hR2.1 (by omega), zCr_sp hR2.2.1, zCo_si hR2.2.2 (by omega) (by omega)⟩ ho2
      exact ⟨m', w1, zfq_tr f2 (zfq_tr f3 w2), w3⟩
    have hc : res.1 = 0 ∨ res.1 = 1 ∨ res.1 = 2 := by omega
    rcases hc with e | e | e
    · obtain ⟨rfl, p2, p3, -, -⟩ := q4 e
      rw [if_neg (by omega), if_neg (by omega)] at hst
      rw [hst]
      simp only [zN10, if_false]
      exact hfin m1 res.2.2 q2 hU1 ⟨hI, p2, p3⟩ ((hO (by omega)).trans ho) hs1
    · obtain ⟨rfl, p2, p3⟩ := q5 e
      rw [if_neg (by omega), if_pos e] at hst
      rw [hst]
      have ho1 : zopn res.2.2 = [] := (hO (by omega)).trans ho
      rw [ho1] at p2 p3
      have eU : zUn [] res.2.2 = res.2.2 := zs_opn_id ho1
      rw [eU] at p2 p3
      have g15 := p3.2.2
      have g14 := p2.2.2.2.2.2.2.2.2.1
      simp (disch := omega) only [if_true, g15, g14, zN_add]
      have f3 : zfq r m1 (si m1 r 14 (zN (zfs res.2.2 + 1))) := zfq_si (zfq_rf r m1) (by omega) (by omega)
      exact hfin (si m1 r 14 (zN (zfs res.2.2 + 1))) (zs_fs res.2.2 (zfs res.2.2 + 1)) (zfq_tr q2 f3) (zU_q hU1 f3) ⟨hI, zCr_fs p2, zCo_si p3 (by omega) (by omega)⟩ ho1 hs1
    · obtain ⟨rfl, p2, p3⟩ := q6 e
      rw [if_pos e] at hst
      rw [hst]
      have g16 := p2.2.2.2.2.2.2.2.2.2.1
      simp (disch := omega) only [if_true, p3, zN10, if_false, g16, zN_add]
      obtain ⟨n, rfl⟩ : ∃ k, n = k + 1 := ⟨n - 1, by omega⟩
      have f3 : zfq r m1 (si m1 r 16 (zN (zsp res.2.2 + 1))) := zfq_si (zfq_rf r m1) (by omega) (by omega)
      have hU3 := zU_q hU1 f3
      obtain ⟨-, -, -, -, -, ⟨-, hd2', -⟩, ⟨g0', -⟩⟩ := hU3
      refine ⟨si m1 r 16 (zN (zsp res.2.2 + 1)), ?_, zfq_tr q2 f3, zSi_sp hI (by omega), zCr_sp p2, ?_, fun g => (by cases g)⟩
      · unfold fX2_runMain_5
        simp (disch := omega) only [zv, gi_si, zgr g0', hd2', zN_le, gi_ne, p3, zN_lit, zN10, if_false, ite_self]
      · rw [gi_ne (by omega)]; exact p3
theorem zc_runMain (hw : zwf P) {m : XM} {s : zS} (hU : zU N m r c P) (h : zCR t m r P s) (ho : zopn s = []) : ∃ m', fX2_runMain N r m = some m' ∧ zfq r m m' ∧ zFin t m' r P (zMain P s) := by
  unfold fX2_runMain
  have hX := zXF
  revert hX
  generalize XF = nf
  intro hX
  have f3 : zfq r m (si m r 16 (zN 0)) := zfq_si (zfq_rf r m) (by omega) (by omega)
  have hle := hw.2.2.2.1
  obtain ⟨m', w1, w2, w3⟩ := zc_runMain_5 (N := N) (t := t) (r := r) (c := c) hw (zstp P) nf [] (si m r 16 (zN 0)) (zs_sp s 0) (by omega) rfl rfl (zU_q hU f3) ⟨zSi_sp h.1 (by omega), zCr_sp h.2.1, zCo_si h.2.2 (by omega) (by omega)⟩ ho
  refine ⟨m', ?_, zfq_tr f3 w2, w3⟩
  simp only [zv, zN_lit]
  exact w1
end ZX
