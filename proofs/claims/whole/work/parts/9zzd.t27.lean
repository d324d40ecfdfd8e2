/-! ===== t: names are looked up ===== -/
def qlk (Q : pQ) (key : Nat) : Option Nat := match qul Q (key / 26) with
  | none => none
  | some u => qnm Q u (key % 26)
/-- wrong as a term, wrong as what is set -/
def qbc (Q : pQ) (q : pK) : Prop := (q.1 = 1 ∨ q.1 = 2) ∧ ¬ ∃ x, qlk Q q.2.1 = some x ∧ (qknd Q x = 4 ↔ q.1 = 2)
/-- constants have their numbers -/
def qV (Q : pQ) : Prop := ∀ x, qok Q x → qknd Q x = 0 → ∃ v, qnum Q x = some v ∧ v ≤ 999
def qbt (Q : pQ) (t : Nat × Nat) : Prop := ¬ ∃ x, qlk Q t.1 = some x ∧ qknd Q x = 1
def qrc (Q : pQ) (q : pK) : zCode := if q.1 = 1 ∨ q.1 = 2 then (match qlk Q q.2.1 with
  | none => (q.1, 0)
  | some x => if qknd Q x = 0 then (0, (qnum Q x).getD 0) else (q.1, x)) else (q.1, q.2.1)
def qrt (Q : pQ) (o : Option (Nat × Nat)) : Option Nat := match o with
  | none => none
  | some t => some ((qlk Q t.1).getD 0)
def qrd (Q : pQ) (D : pD) : zDeed := (D.1.map (qrc Q), qrt Q D.2)
/-- places of what is wrong -/
def qBp (Q : pQ) (L : List pD) (p : Nat) : Prop := (∃ D ∈ L, ∃ t, D.2 = some t ∧ qbt Q t ∧ t.2 = p) ∨ ∃ q ∈ pcs L, qbc Q q ∧ q.2.2 = p
def qMi (Q : pQ) (L : List pD) (p : Nat) : Prop := qBp Q L p ∧ ∀ p', qBp Q L p' → p ≤ p'
/-- only codes from f on, targets from k on, and the fault change -/
def cV (d f k : Nat) (m m' : XM) : Prop := (∀ z j, ¬ (z = 2 ∧ (j = 12 ∨ j = 13)) → ¬ ((z = d + 13 ∨ z = d + 14) ∧ f ≤ j) → ¬ (z = d + 17 ∧ k ≤ j) → gi m' z j = gi m z j) ∧ (∀ z j, gr m' z j = gr m z j) ∧ ∀ z j, gl m' z j = gl m z j
theorem cV_rf (d f k : Nat) (m : XM) : cV d f k m m := ⟨fun _ _ _ _ _ => rfl, fun _ _ => rfl, fun _ _ => rfl⟩
theorem cV_tr {d f k f' k' : Nat} {m m1 m2 : XM} (h : cV d f k m m1) (g : cV d f' k' m1 m2) (hf : f ≤ f') (hk : k ≤ k') : cV d f k m m2 := ⟨fun z j q1 q2 q3 => (g.1 z j q1 (by omega) (by omega)).trans (h.1 z j q1 q2 q3), fun z j => (g.2.1 z j).trans (h.2.1 z j), fun z j => (g.2.2 z j).trans (h.2.2 z j)⟩
section SC
variable {N : Nat → Nat} {d : Nat} {Q : pQ} {m m' : XM}
theorem qlk_ok (hW : qW Q) {key x : Nat} (h : qlk Q key = some x) : qok Q x ∧ (qknd Q x = 0 ∨ qknd Q x = 1 ∨ qknd Q x = 4) := by
  unfold qlk at h
  cases e : qul Q (key / 26) with
  | none => rw [e] at h; simp at h
  | some u =>
    rw [e] at h
    have := (hW.2.2.2.2.1 u (key % 26) x (Nat.mod_lt _ (by omega))).1 h
    exact ⟨this.1, this.2.2.1⟩
theorem cQ_V {f k : Nat} (hd : d = 3 ∨ d = 28) (g : cV d f k m m') (h : cQ m d Q) : cQ m' d Q := by
  have gm : ∀ z j, z ≠ 2 → z ≠ d + 13 → z ≠ d + 14 → z ≠ d + 17 → gi m' z j = gi m z j := fun z j q1 q2 q3 q4 => g.1 z j (by omega) (by omega) (by omega)
  obtain ⟨c1, c2, c3, c4, c5, c6, c7, c8⟩ := h
  exact ⟨by rw [gm _ _ (by omega) (by omega) (by omega) (by omega)]; exact c1, by rw [gm _ _ (by omega) (by omega) (by omega) (by omega)]; exact c2, fun y hy => by rw [gm _ _ (by omega) (by omega) (by omega) (by omega), gm _ _ (by omega) (by omega) (by omega) (by omega)]; exact c3 y hy, fun y hy => by rw [gm _ _ (by omega) (by omega) (by omega) (by omega)]; exact c4 y hy, fun x hx => by rw [gm _ _ (by omega) (by omega) (by omega) (by omega), gm _ _ (by omega) (by omega) (by omega) (by omega), gm _ _ (by omega) (by omega) (by omega) (by omega), gm _ _ (by omega) (by omega) (by omega) (by omega), gm _ _ (by omega) (by omega) (by omega) (by omega), gm _ _ (by omega) (by omega) (by omega) (by omega)]; exact c5 x hx, fun y c hy hc => by rw [gm _ _ (by omega) (by omega) (by omega) (by omega)]; exact c6 y c hy hc, fun L hL => by rw [gm _ _ (by omega) (by omega) (by omega) (by omega)]; exact c7 L hL, fun k j hj => by rw [gm _ _ (by omega) (by omega) (by omega) (by omega)]; exact c8 k j hj⟩
theorem c_lk (hR : cR N d m) (hQ : cQ m d Q) (hW : qW Q) {key : Nat} (hk : key < 182) : fX1_lookUp N 2 (zN key) m = some (zopt (qlk Q key), m) := by
  obtain ⟨hd, ⟨-, -, -, -, -, -, -, -, -, n10, -⟩, ⟨n21, -⟩, ⟨-, -, -, -, -, -, -, -, -, g10, -⟩, g0, g21, -⟩ := hR
  have hn := hW.1
  have hL : key / 26 < 7 := by omega
  have e1 := hQ.2.2.2.2.2.2.1 (key / 26) hL
  unfold fX1_lookUp
  simp (disch := omega) only [zgr g21, zN_lit, zdv, zv, zN_div, zald, e1, zneg]
  unfold qlk
  cases e : qul Q (key / 26) with
  | none => rw [if_pos (show zopt none = zM from rfl)]; rfl
  | some u =>
    have hu := ((hW.2.2.2.1 (key / 26) u hL).1 e).1
    have e2 := hQ.2.2.2.2.2.1 u (key % 26) (by omega) (by omega)
    rw [if_neg (by rw [show zopt (some u) = zN u from rfl, zN_m (by omega)]; exact id)]
    show (xgr m 2 0 fun u4 => xgr m u4 10 fun u5 => xv (zN u * zN 26) fun v6 => xv (xrem (zN key) (zN 26)) fun v7 => xv (v6 + v7) fun v8 => xald N m u5 v8 fun v9 => some (v9, m)) = _
    rw [zgr g0, zgr g10, zv, zv, zv, zN_rem (by omega) (by omega), zN_mul, zN_add, zald (by omega) (by omega), show u * 26 + key % 26 = 26 * u + key % 26 by omega, e2]
theorem c_rn (a p : Int32) : fX1_refuseName N 2 p m = some (zN 0, si (si m 2 12 (zN 5)) 2 13 p) := by
  unfold fX1_refuseName
  simp only [zv, zN_lit]
theorem c_rc (hR : cR N d m) (hQ : cQ m d Q) (hW : qW Q) (hV : qV Q) {c : Nat} {q : pK} (hc : c < 600) (hq : q.1 = 1 ∨ q.1 = 2) (hk : q.2.1 < 182) (e1 : gi m (d + 13) c = zN q.1) (e2 : gi m (d + 14) c = zN q.2.1) (e3 : gi m 22 c = zN q.2.2) :
    (qbc Q q → fX1_resolveCode N 2 (zN c) m = some (zN 0, si (si m 2 12 (zN 5)) 2 13 (zN q.2.2))) ∧ (¬ qbc Q q → ∃ m', fX1_resolveCode N 2 (zN c) m = some (zN 1, m') ∧ gi m' (d + 13) c = zN (qrc Q q).1 ∧ gi m' (d + 14) c = zN (qrc Q q).2 ∧ (∀ z j, ¬ ((z = d + 13 ∨ z = d + 14) ∧ j = c) → gi m' z j = gi m z j) ∧ (∀ z j, gr m' z j = gr m z j) ∧ ∀ z j, gl m' z j = gl m z j) := by
  have hlk := c_lk hR hQ hW hk
  obtain ⟨hd, ⟨-, -, -, n4, -, n6, -, -, -, -, -, n13, n14, -⟩, ⟨-, n22, -⟩, ⟨-, -, -, g4, -, g6, -, -, -, -, -, g13, s1, s2, -⟩, g0, -, g2, -⟩ := hR
  have e60 : fX1_resolveCode_60 N 2 (zN c) m = some (zN 0, si (si m 2 12 (zN 5)) 2 13 (zN q.2.2)) := by
    unfold fX1_resolveCode_60
    rw [zgr g2, zald (by omega) (by omega), e3, c_rn 0, zca, znbN0]
  have e0 : fX1_resolveCode N 2 (zN c) m = (if zopt (qlk Q q.2.1) = zM then (fX1_resolveCode_60 N 2 (zN c) m) else (xald N m (d + 4) (zopt (qlk Q q.2.1)) fun v9 => if (v9 : Int32) = zN 4 then (fX1_resolveCode_42 N 2 (zN c) (d + 12) (zopt (qlk Q q.2.1)) (zN 1) m) else (fX1_resolveCode_42 N 2 (zN c) (d + 12) (zopt (qlk Q q.2.1)) (zN 0) m))) := by
    unfold fX1_resolveCode
    rw [zgr g0, zgr g13, zgr s2, zald (by omega) (by omega), e2, hlk, zca]
    simp only [zN_lit, zneg, zgr g0, zgr g4]
  cases hl : qlk Q q.2.1 with
  | none =>
    have e0' : fX1_resolveCode N 2 (zN c) m = some (zN 0, si (si m 2 12 (zN 5)) 2 13 (zN q.2.2)) := by
      rw [e0, hl, if_pos (show zopt none = zM from rfl)]; exact e60
    exact ⟨fun _ => e0', fun hn => absurd ⟨hq, fun ⟨x, hx, _⟩ => by rw [hl] at hx; simp at hx⟩ hn⟩
  | some x =>
    obtain ⟨hok, hkk⟩ := qlk_ok hW hl
    have hx84 := (qid_lt hW hok).2.2
    obtain ⟨f4, -, f6, -⟩ := hQ.2.2.2.2.1 x hok
    have hk4 := (hW.2.2.2.2.2.1 x hok).1
    rw [hl] at e0
    have e0' : fX1_resolveCode N 2 (zN c) m = (if qknd Q x = 4 then (fX1_resolveCode_42 N 2 (zN c) (d + 12) (zN x) (zN 1) m) else (fX1_resolveCode_42 N 2 (zN c) (d + 12) (zN x) (zN 0) m)) := by
      rw [e0, if_neg (by rw [show zopt (some x) = zN x from rfl, zN_m (by omega)]; exact id)]
      show (xald N m (d + 4) (zN x) fun v9 => if (v9 : Int32) = zN 4 then (fX1_resolveCode_42 N 2 (zN c) (d + 12) (zN x) (zN 1) m) else (fX1_resolveCode_42 N 2 (zN c) (d + 12) (zN x) (zN 0) m)) = _
      rw [zald (by omega) (by omega), f4]
      simp (disch := omega) only [zN_eq]
    have e57 : ∀ s : Nat, s ≤ 1 → fX1_resolveCode_42 N 2 (zN c) (d + 12) (zN x) (zN s) m = (if s = (if q.1 = 2 then 1 else 0) then (if qknd Q x = 0 then (xgr (si m (d + 13) c (zN 0)) (d + 12) 2 fun u8 => xgr (si m (d + 13) c (zN 0)) 2 0 fun u9 => xgr (si m (d + 13) c (zN 0)) u9 6 fun u10 => xald N (si m (d + 13) c (zN 0)) u10 (zN x) fun v11 => xast N (si m (d + 13) c (zN 0)) u8 (zN c) v11 fun m12 => some (zN 1, m12)) else (some (zN 1, si m (d + 14) c (zN x)))) else (fX1_resolveCode_60 N 2 (zN c) m)) := fun s hs => by
      unfold fX1_resolveCode_42 fX1_resolveCode_57
      rw [zgr s1, zald (by omega) (by omega), e1]
      simp (disch := omega) only [zN_lit, zN_eq, zgr g0, zgr g4, zald, f4, zgr s1, zgr s2, zast]
      by_cases q2 : q.1 = 2
      · rw [if_pos q2, if_pos q2]
      · rw [if_neg q2, if_neg q2]
    by_cases hb : qbc Q q
    · refine ⟨fun _ => ?_, fun hn => absurd hb hn⟩
      have hiff : ¬ (qknd Q x = 4 ↔ q.1 = 2) := fun r => hb.2 ⟨x, hl, r⟩
      rw [e0']
      by_cases h4 : qknd Q x = 4
      · rw [if_pos h4, e57 1 (by omega), if_neg (show ¬ q.1 = 2 from fun r => hiff ⟨fun _ => r, fun _ => h4⟩), if_neg (by omega)]; exact e60
      · have h2 : q.1 = 2 := by
          by_cases r : q.1 = 2
          · exact r
          · exact absurd ⟨fun r' => absurd r' h4, fun r' => absurd r' r⟩ hiff
        rw [if_neg h4, e57 0 (by omega), if_pos h2, if_neg (by omega)]; exact e60
    · refine ⟨fun hn => absurd hn hb, fun _ => ?_⟩
      have hiff : qknd Q x = 4 ↔ q.1 = 2 := by
        by_cases r : qknd Q x = 4 ↔ q.1 = 2
        · exact r
        · exact absurd ⟨hq, fun ⟨x', hx', hr⟩ => by
            rw [hl] at hx'
            have e : x = x' := by simpa using hx'
            rw [← e] at hr
            exact r hr⟩ hb
      have erc : qrc Q q = if qknd Q x = 0 then (0, (qnum Q x).getD 0) else (q.1, x) := by
        unfold qrc
        rw [if_pos hq, hl]
      have e5 : fX1_resolveCode N 2 (zN c) m = (if qknd Q x = 0 then (xgr (si m (d + 13) c (zN 0)) (d + 12) 2 fun u8 => xgr (si m (d + 13) c (zN 0)) 2 0 fun u9 => xgr (si m (d + 13) c (zN 0)) u9 6 fun u10 => xald N (si m (d + 13) c (zN 0)) u10 (zN x) fun v11 => xast N (si m (d + 13) c (zN 0)) u8 (zN c) v11 fun m12 => some (zN 1, m12)) else (some (zN 1, si m (d + 14) c (zN x)))) := by
        rw [e0']
        by_cases h4 : qknd Q x = 4
        · rw [if_pos h4, e57 1 (by omega), if_pos (hiff.1 h4), if_pos rfl]
        · rw [if_neg h4, e57 0 (by omega), if_neg (fun r => h4 (hiff.2 r)), if_pos rfl]
      rw [e5, erc]
      by_cases h0 : qknd Q x = 0
      · rw [if_pos h0, if_pos h0, zgr_si, zgr s2, zgr_si, zgr g0, zgr_si, zgr g6, zald (by omega) (by omega), gi_ne (by omega), f6, zast (by omega) (by omega)]
        refine ⟨_, rfl, by rw [gi_ne (by omega), gi_si], ?_, fun z j r => by rw [gi_ne (by omega), gi_ne (by omega)], fun _ _ => rfl, fun _ _ => rfl⟩
        rw [gi_si]
        obtain ⟨v, hv, -⟩ := hV x hok h0
        rw [hv]; rfl
      · rw [if_neg h0, if_neg h0]
        exact ⟨_, rfl, by rw [gi_ne (by omega)]; exact e1, gi_si _ _ _ _, fun z j r => gi_ne (by omega), fun _ _ => rfl, fun _ _ => rfl⟩
end SC
