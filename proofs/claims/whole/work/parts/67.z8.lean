/-! ===== z: what a run keeps (the spec alone) ===== -/
/-- work grows at least as surprises and losses do -/
def zle (s s' : zS) : Prop := zwk s + (zsur s').length ≤ zwk s' + (zsur s).length ∧ zwk s + zlos s' ≤ zwk s' + zlos s ∧ zwk s ≤ zwk s'
theorem zle_rf (s : zS) : zle s s := ⟨Nat.le_refl _, Nat.le_refl _, Nat.le_refl _⟩
theorem zle_tr {a b c : zS} (h : zle a b) (g : zle b c) : zle a c := by
  obtain ⟨h1, h2, h3⟩ := h
  obtain ⟨g1, g2, g3⟩ := g
  exact ⟨by omega, by omega, by omega⟩
def zI (P : zP) (s : zS) (r : zR) : Prop := zSi P r.2.2 ∧ zle s r.2.2
/-- with k more that may be open -/
def zIT (P : zP) (k : Nat) (T : Nat → zS → zR) : Prop := ∀ u s, u < zn P → zSi P s → (zopn s).length + k = 20 → zI P s (T u s)
def zIC (P : zP) (k : Nat) (C : Nat → zS → zR) : Prop := ∀ x s, zok P x → zknd P x = 4 → zSi P s → (zopn s).length + k = 20 → zI P s (C x s)
theorem zI_bind {P : zP} {s : zS} {r : zR} {k : Int32 → zS → zR} (h1 : zI P s r) (h2 : r.1 = 0 → zI P r.2.2 (k r.2.1 r.2.2)) : zI P s (zbind r k) := by
  by_cases h0 : r.1 = 0
  · rw [zbind_p h0]
    exact ⟨(h2 h0).1, zle_tr h1.2 (h2 h0).2⟩
  · rw [zbind_n h0]; exact h1
theorem zok_84 {P : zP} {x : Nat} (hw : zwf P) (hx : zok P x) : x < 84 ∧ x / 12 < 7 := by
  have h1 := hw.1
  have h2 := hx.1
  have h3 := hx.2
  have h4 := (hw.2.1 _ h2).1
  omega
theorem zSi_wk {P : zP} {s : zS} (h : zSi P s) (hw : zwk s < 3000) : zSi P (zs_wk s (zwk s + 1)) := by
  obtain ⟨a1, a2, a3, a4, a5, a6, a7⟩ := h
  exact ⟨a1, a2, a3, hw, Nat.le_succ_of_le a5, Nat.le_succ_of_le a6, a7⟩
theorem zle_wk (s : zS) : zle s (zs_wk s (zwk s + 1)) := by
  refine ⟨?_, ?_, Nat.le_succ _⟩
  · show zwk s + (zsur s).length ≤ zwk s + 1 + (zsur s).length; omega
  · show zwk s + zlos s ≤ zwk s + 1 + zlos s; omega
theorem zSi_fl {P : zP} {s : zS} {f : Nat × Int32 × Nat} (h : zSi P s) : zSi P (zs_fl s f) := h
theorem zSi_note {P : zP} {s : zS} {x : Nat} (hx : zok P x) (h : zSi P s) (hl : (zsur s).length < zwk s) : zSi P (zNote P x s) := by
  unfold zNote
  split
  · obtain ⟨a1, a2, a3, a4, a5, a6, a7, a8, a9⟩ := h
    refine ⟨a1, a2, a3, a4, hl, a6, a7, a8, fun q hq => ?_⟩
    rcases List.mem_cons.mp hq with e | e
    · rw [e]; exact ⟨hx, a2⟩
    · exact a9 q e
  · exact h
theorem zI_set {P : zP} {s : zS} (x : Nat) (v : Int32) (h : zSi P s) (hlt : zwk s < 3000) : zI P s (0, v, zs_val (zs_los (zs_wk s (zwk s + 1)) (if zEarly P x s then zlos s + 1 else zlos s)) (zset (zval s) x v)) := by
  obtain ⟨a1, a2, a3, a4, a5, a6, a7⟩ := h
  have e : (if zEarly P x s then zlos s + 1 else zlos s) ≤ zlos s + 1 := by
    split <;> omega
  refine ⟨⟨a1, a2, a3, hlt, Nat.le_succ_of_le a5, ?_, a7⟩, ?_, ?_, Nat.le_succ _⟩
  · show (if zEarly P x s then zlos s + 1 else zlos s) ≤ zwk s + 1
    omega
  · show zwk s + (zsur s).length ≤ zwk s + 1 + (zsur s).length
    omega
  · show zwk s + (if zEarly P x s then zlos s + 1 else zlos s) ≤ zwk s + 1 + zlos s
    omega
section ZI
variable {P : zP} {k : Nat} {T C : Nat → zS → zR}
theorem zI_term (hw : zwf P) (hT : zIT P k T) (hC : zIC P k C) (hTo : zKo T) {c : zCode} {s : zS} (h1 : c.1 = 1 → zok P c.2 ∧ zknd P c.2 = 1) (h2 : c.1 = 2 → zok P c.2 ∧ zknd P c.2 = 4) (h : zSi P s) (ho : (zopn s).length + k = 20) : zI P s (zTerm P T C c s) := by
  unfold zTerm
  by_cases hwk : zwk s < 3000
  · rw [if_pos hwk]
    have hs1 := zSi_wk h hwk
    have hl1 := zle_wk s
    split
    · exact ⟨hs1, hl1⟩
    · split
      · have hx := (h1 ‹_›).1
        have hI := hT (c.2 / 12) _ hx.1 hs1 ho
        have hI' : zI P s (T (c.2 / 12) (zs_wk s (zwk s + 1))) := ⟨hI.1, zle_tr hl1 hI.2⟩
        generalize hr : T (c.2 / 12) (zs_wk s (zwk s + 1)) = r at hI hI'
        by_cases h0 : r.1 = 0
        · rw [zbind_p h0]
          have e1 := hI.2.1
          have e3 := hI.2.2.2
          have a5 := h.2.2.2.2.1
          have es : (zsur (zs_wk s (zwk s + 1))).length = (zsur s).length := rfl
          have ew : zwk (zs_wk s (zwk s + 1)) = zwk s + 1 := rfl
          rw [es, ew] at e1
          refine ⟨zSi_note hx hI.1 (by omega), ?_⟩
          show zle s (zNote P c.2 r.2.2)
          unfold zNote
          split
          · refine ⟨?_, hI'.2.2⟩
            show zwk s + ((zsur r.2.2).length + 1) ≤ zwk r.2.2 + (zsur s).length
            omega
          · exact hI'.2
        · rw [zbind_n h0]; exact hI'
      · split
        · have hx := h2 ‹_›
          have hI := hT (c.2 / 12) _ hx.1.1 hs1 ho
          refine zI_bind ⟨hI.1, zle_tr hl1 hI.2⟩ (fun h0 => ?_)
          exact hC _ _ hx.1 hx.2 hI.1 (by rw [hTo _ _ (by omega)]; exact ho)
        · exact ⟨zSi_fl hs1, hl1⟩
  · rw [if_neg hwk]; exact ⟨h, zle_rf s⟩
theorem zI_ev (hw : zwf P) (hT : zIT P k T) (hC : zIC P k C) (hTo : zKo T) (hCo : zKo C) : ∀ (l : List zCode) (v : List Int32) (s : zS), (∀ c ∈ l, (c.1 = 1 → zok P c.2 ∧ zknd P c.2 = 1) ∧ (c.1 = 2 → zok P c.2 ∧ zknd P c.2 = 4)) → zSi P s → (zopn s).length + k = 20 → zI P s (zEv P T C l v s)
  | [], _, s, _, h, _ => ⟨h, zle_rf s⟩
  | c :: cs, v, s, hc, h, ho => by
    unfold zEv
    have hc' : ∀ d ∈ cs, (d.1 = 1 → zok P d.2 ∧ zknd P d.2 = 1) ∧ (d.1 = 2 → zok P d.2 ∧ zknd P d.2 = 4) := fun d hd => hc d (List.mem_cons_of_mem _ hd)
    split
    · exact zI_ev hw hT hC hTo hCo cs _ s hc' h ho
    · have h1 := zI_term hw hT hC hTo (hc c List.mem_cons_self).1 (hc c List.mem_cons_self).2 h ho
      exact zI_bind h1 (fun h0 => zI_ev hw hT hC hTo hCo cs _ _ hc' h1.1 (by rw [zKo_term hTo hCo c s (by omega)]; exact ho))
theorem zI_do (hw : zwf P) (hT : zIT P k T) (hC : zIC P k C) (hTo : zKo T) (hCo : zKo C) {d : zDeed} {s : zS} (hd : zdok P d) (h : zSi P s) (ho : (zopn s).length + k = 20) : zI P s (zDo P T C d s) := by
  unfold zDo
  have h1 := zI_ev hw hT hC hTo hCo d.1 [] s hd.1.2 h ho
  refine zI_bind h1 (fun h0 => ?_)
  cases hm : d.2 with
  | none => exact ⟨h1.1, zle_rf _⟩
  | some x =>
    have hx := (hd.2 x hm).1
    have h2 := hT (x / 12) _ hx.1 h1.1 (by rw [zKo_ev hTo hCo d.1 [] s (by omega)]; exact ho)
    refine zI_bind h2 (fun h0' => ?_)
    split
    · exact zI_set x _ h2.1 ‹_›
    · exact ⟨h2.1, zle_rf _⟩
theorem zI_dos (hw : zwf P) (hT : zIT P k T) (hC : zIC P k C) (hTo : zKo T) (hCo : zKo C) : ∀ (l : List zDeed) (v : Int32) (s : zS), (∀ d ∈ l, zdok P d) → zSi P s → (zopn s).length + k = 20 → zI P s (zDos P T C l v s)
  | [], _, s, _, h, _ => ⟨h, zle_rf s⟩
  | d :: ds, v, s, hd, h, ho => by
    unfold zDos
    have h1 := zI_do hw hT hC hTo hCo (hd d List.mem_cons_self) h ho
    exact zI_bind h1 (fun h0 => zI_dos hw hT hC hTo hCo ds _ _ (fun e he => hd e (List.mem_cons_of_mem _ he)) h1.1 (by rw [zKo_do hTo hCo d s (by omega)]; exact ho))
theorem zI_mem (hw : zwf P) (hT : zIT P k T) (hC : zIC P k C) (hTo : zKo T) (hCo : zKo C) {x : Nat} {s : zS} (hx : zok P x) (h : zSi P s) (ho : (zopn s).length + k = 20) : zI P s (zMem P T C x s) := by
  unfold zMem
  split
  · cases hi : zini P x with
    | none => exact ⟨h, zle_rf s⟩
    | some d =>
      have h1 := zI_do hw hT hC hTo hCo ((hw.2.2.1 x hx).2.1 d hi) h ho
      refine zI_bind h1 (fun h0 => ?_)
      by_cases hk : zknd P x = 1
      · rw [if_pos hk]; exact ⟨h1.1, zle_rf _⟩
      · rw [if_neg hk]; exact ⟨h1.1, zle_rf _⟩
  · exact ⟨h, zle_rf s⟩
theorem zI_mems (hw : zwf P) (hT : zIT P k T) (hC : zIC P k C) (hTo : zKo T) (hCo : zKo C) : ∀ (l : List Nat) (s : zS), (∀ x ∈ l, zok P x) → zSi P s → (zopn s).length + k = 20 → zI P s (zMems P T C l s)
  | [], s, _, h, _ => ⟨h, zle_rf s⟩
  | x :: xs, s, hx, h, ho => by
    unfold zMems
    have h1 := zI_mem hw hT hC hTo hCo (hx x List.mem_cons_self) h ho
    exact zI_bind h1 (fun h0 => zI_mems hw hT hC hTo hCo xs _ (fun e he => hx e (List.mem_cons_of_mem _ he)) h1.1 (by rw [zKo_mem hTo hCo x s (by omega)]; exact ho))
end ZI
theorem zplc_ok {P : zP} (hw : zwf P) {u i : Nat} (hu : u < zn P) (hi : i < zcnt P u) : zok P (12 * u + zplc P u i) := by
  have h1 := (hw.2.1 u hu).2.2.2 i hi
  have h2 := (hw.2.1 u hu).1
  have e1 : (12 * u + zplc P u i) / 12 = u := by omega
  have e2 : (12 * u + zplc P u i) % 12 = zplc P u i := by omega
  unfold zok
  rw [e1, e2]
  exact ⟨hu, h1⟩
theorem zmb_ok {P : zP} (hw : zwf P) {u : Nat} (hu : u < zn P) : ∀ (d i : Nat), i + d ≤ zcnt P u → ∀ x ∈ zmb P u d i, zok P x
  | 0, _, _, x, hx => by cases hx
  | d + 1, i, h, x, hx => by
    rcases List.mem_cons.mp hx with e | e
    · rw [e]; exact zplc_ok hw hu (by omega)
    · exact zmb_ok hw hu d (i + 1) (by omega) x e
theorem zmbs_ok {P : zP} (hw : zwf P) {u : Nat} (hu : u < zn P) : ∀ x ∈ zmbs P u, zok P x := zmb_ok hw hu _ _ (by omega)
theorem zSi_begin {P : zP} (hw : zwf P) {u : Nat} {s : zS} (hu : u < zn P) (h : zSi P s) (h0 : zst s u = 0) (hwk : zwk s < 3000) (ho : (zopn s).length < 20) : zSi P (zBegin P u s) := by
  obtain ⟨a1, a2, a3, a4, a5, a6, a7, a8, a9⟩ := h
  have h7 := hw.1
  refine ⟨fun v => ?_, ho, fun x hx => ?_, hwk, Nat.le_succ_of_le a5, Nat.le_succ_of_le a6, a7, ?_, a9⟩
  · show zset (zst s) u 1 v ≤ 3
    by_cases e : v = u
    · rw [e, zset_eq]; omega
    · rw [zset_ne _ _ e]; exact a1 v
  · rcases List.mem_cons.mp hx with e | e
    · omega
    · exact a3 x e
  · have := zfree_set (f := zst s) (u := u) (v := 1) (by omega) h0 (by omega)
    show (zbeg s).length + 1 + zfree (zset (zst s) u 1) ≤ 7
    omega
theorem zSi_st {P : zP} {u v : Nat} {s : zS} (h : zSi P s) (hv : v ≤ 3) (hv0 : v ≠ 0) : zSi P (zs_st s (zset (zst s) u v)) := by
  obtain ⟨a1, a2, a3, a4, a5, a6, a7, a8, a9⟩ := h
  refine ⟨fun w => ?_, a2, a3, a4, a5, a6, a7, ?_, a9⟩
  · show zset (zst s) u v w ≤ 3
    by_cases e : w = u
    · rw [e, zset_eq]; exact hv
    · rw [zset_ne _ _ e]; exact a1 w
  · have : zfree (zset (zst s) u v) ≤ zfree (zst s) := zfree_le (fun w hw => by
      by_cases e : w = u
      · rw [e, zset_eq] at hw; omega
      · rwa [zset_ne _ _ e] at hw)
    show (zbeg s).length + zfree (zset (zst s) u v) ≤ 7
    omega
theorem zSi_opn {P : zP} {l : List Nat} {s : zS} (h : zSi P s) (h1 : l.length ≤ 20) (h2 : ∀ x ∈ l, x < 700) : zSi P (zs_opn s l) := by
  obtain ⟨a1, a2, a3, a4⟩ := h
  exact ⟨a1, h1, h2, a4⟩
theorem zSi_tail {P : zP} {s : zS} (h : zSi P s) : zSi P (zs_opn s (zopn s).tail) :=
  zSi_opn h (by have := h.2.1; simp; omega) (fun x hx => h.2.2.1 x (List.mem_of_mem_tail hx))
theorem zSi_Un {P : zP} : ∀ (l : List Nat) (s : zS), zSi P s → zSi P (zUn l s)
  | [], s, h => zSi_opn h (Nat.zero_le _) (fun x hx => (by cases hx))
  | x :: l, s, h => by
    unfold zUn
    refine zSi_Un l _ ?_
    split
    · exact zSi_st (v := 3) h (by omega) (by omega)
    · exact h
theorem zI_L {P : zP} (hw : zwf P) : ∀ k, zIT P k (zL P k).1 ∧ zIC P k (zL P k).2
  | 0 => by
    refine ⟨fun u s hu h ho => ?_, fun x s _ _ h _ => ⟨h, zle_rf s⟩⟩
    show zI P s (if zst s u = 0 then _ else _)
    split
    · exact ⟨h, zle_rf s⟩
    · split
      · exact ⟨h, zle_rf s⟩
      · exact ⟨h, zle_rf s⟩
  | k + 1 => by
    obtain ⟨hT, hC⟩ := zI_L hw k
    obtain ⟨hTo, hCo⟩ := zKo_L P k
    refine ⟨fun u s hu h ho => ?_, fun x s hx hk h ho => ?_⟩
    · show zI P s (if zst s u = 0 then _ else _)
      split
      · rename_i h0
        split
        · rename_i hwk
          have hb := zSi_begin hw hu h h0 hwk (by omega)
          have hlb : zle s (zBegin P u s) := by
            refine ⟨?_, ?_, Nat.le_succ _⟩
            · show zwk s + (zsur s).length ≤ zwk s + 1 + (zsur s).length; omega
            · show zwk s + zlos s ≤ zwk s + 1 + zlos s; omega
          have hob : (zopn (zBegin P u s)).length + k = 20 := by
            show (zopn s).length + 1 + k = 20; omega
          have key : zI P s (zbind (match zabv P u with
              | none => (0, 0, zBegin P u s)
              | some a => (zL P k).1 a (zBegin P u s)) fun _ s1 => zMems P (zL P k).1 (zL P k).2 (zmbs P u) s1) := by
            cases ha : zabv P u with
            | none =>
              refine zI_bind (r := (0, 0, zBegin P u s)) ⟨hb, hlb⟩ (fun _ => ?_)
              exact zI_mems hw hT hC hTo hCo _ _ (zmbs_ok hw hu) hb hob
            | some a =>
              have h1 := hT a _ ((hw.2.1 u hu).2.2.1 a ha) hb hob
              refine zI_bind (r := (zL P k).1 a (zBegin P u s)) ⟨h1.1, zle_tr hlb h1.2⟩ (fun hr0 => ?_)
              exact zI_mems hw hT hC hTo hCo _ _ (zmbs_ok hw hu) h1.1 (by rw [hTo _ _ (by omega)]; exact hob)
          generalize zbind _ _ = r at key
          unfold zClose
          split
          · exact ⟨zSi_tail (zSi_st (v := 2) key.1 (by omega) (by omega)), key.2⟩
          · split
            · exact ⟨zSi_tail (zSi_st (v := 3) key.1 (by omega) (by omega)), key.2⟩
            · exact key
        · exact ⟨h, zle_rf s⟩
      · split
        · exact ⟨h, zle_rf s⟩
        · exact ⟨h, zle_rf s⟩
    · show zI P s (zPop _)
      have hnm : (znam P x).getD 0 < 26 := by
        cases hn : znam P x with
        | none => show 0 < 26; omega
        | some y => exact (hw.2.2.1 x hx).2.2.2.2.2 y hn
      have hb : zSi P (zs_opn s ((x / 12 * 100 + (znam P x).getD 0) :: zopn s)) := by
        refine zSi_opn h (by show (zopn s).length + 1 ≤ 20; omega) (fun y hy => ?_)
        rcases List.mem_cons.mp hy with e | e
        · have := (zok_84 hw hx).2; omega
        · exact h.2.2.1 y e
      have key := zI_dos hw hT hC hTo hCo (zfun P x) 0 _ (hw.2.2.1 x hx).2.2.1 hb (by show (zopn s).length + 1 + k = 20; omega)
      unfold zPop
      split
      · exact ⟨key.1, key.2⟩
      · exact ⟨zSi_tail key.1, key.2⟩
