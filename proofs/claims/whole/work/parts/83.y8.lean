/-! ===== y: the reference's run: the group as a whole ===== -/
theorem ygE (N : Nat → Nat) (e t q : Nat) (x0 x1 : Int32) (m : XM) : gX9_comesTo N (e + 1) t q x0 x1 m = if t = 0 then ((fX9_comesTo N (gX9_comesTo N e) q x0 m).map fun m => ((0 : Int32), m)) else if t = 1 then ((fX9_does N (gX9_comesTo N e) q x0 x1 m).map fun m => ((0 : Int32), m)) else if t = 2 then ((fX9_acts N (gX9_comesTo N e) q x0 m).map fun m => ((0 : Int32), m)) else if t = 3 then fX9_sumOf N (gX9_comesTo N e) q x0 m else if t = 4 then fX9_termOf N (gX9_comesTo N e) q x0 m else if t = 5 then fX9_calls N (gX9_comesTo N e) q x0 x1 m else none := by
  rw [gX9_comesTo, zv]
theorem ygE0 (N : Nat → Nat) (e q : Nat) (x0 x1 : Int32) (m : XM) : gX9_comesTo N (e + 1) 0 q x0 x1 m = ((fX9_comesTo N (gX9_comesTo N e) q x0 m).map fun m => ((0 : Int32), m)) := by
  rw [ygE, if_pos rfl]
theorem ygE1 (N : Nat → Nat) (e q : Nat) (x0 x1 : Int32) (m : XM) : gX9_comesTo N (e + 1) 1 q x0 x1 m = ((fX9_does N (gX9_comesTo N e) q x0 x1 m).map fun m => ((0 : Int32), m)) := by
  rw [ygE, if_neg (by omega), if_pos rfl]
theorem ygE2 (N : Nat → Nat) (e q : Nat) (x0 x1 : Int32) (m : XM) : gX9_comesTo N (e + 1) 2 q x0 x1 m = ((fX9_acts N (gX9_comesTo N e) q x0 m).map fun m => ((0 : Int32), m)) := by
  rw [ygE, if_neg (by omega), if_neg (by omega), if_pos rfl]
theorem ygE3 (N : Nat → Nat) (e q : Nat) (x0 x1 : Int32) (m : XM) : gX9_comesTo N (e + 1) 3 q x0 x1 m = fX9_sumOf N (gX9_comesTo N e) q x0 m := by
  rw [ygE, if_neg (by omega), if_neg (by omega), if_neg (by omega), if_pos rfl]
theorem ygE4 (N : Nat → Nat) (e q : Nat) (x0 x1 : Int32) (m : XM) : gX9_comesTo N (e + 1) 4 q x0 x1 m = fX9_termOf N (gX9_comesTo N e) q x0 m := by
  rw [ygE, if_neg (by omega), if_neg (by omega), if_neg (by omega), if_neg (by omega), if_pos rfl]
theorem ygE5 (N : Nat → Nat) (e q : Nat) (x0 x1 : Int32) (m : XM) : gX9_comesTo N (e + 1) 5 q x0 x1 m = fX9_calls N (gX9_comesTo N e) q x0 x1 m := by
  rw [ygE, if_neg (by omega), if_neg (by omega), if_neg (by omega), if_neg (by omega), if_neg (by omega), if_pos rfl]
theorem yg_rest {N : Nat → Nat} {b : Bool} {k e0 : Nat} {P : zP} {K : Nat → Int32} (hw : zwf P) (h : ∀ e, e0 ≤ e → yQT N b K P k (gX9_comesTo N e) (zL P k).1 ∧ yQC N b K P k (gX9_comesTo N e) (zL P k).2) :
    (∀ e, e0 + 18 ≤ e → yQS N b K P k (gX9_comesTo N e) (zL P k).1 (zL P k).2 9) ∧ (∀ e, e0 + 19 ≤ e → yQA N b K P k (gX9_comesTo N e) (zL P k).1 (zL P k).2) ∧ (∀ e, e0 + 20 ≤ e → yQM N b K P k (gX9_comesTo N e) (zL P k).1 (zL P k).2) := by
  obtain ⟨iT, iC⟩ := zI_L hw k
  obtain ⟨oT, oC⟩ := zKo_L P k
  have hS : ∀ n e, e0 + 2 * n ≤ e → yQS N b K P k (gX9_comesTo N e) (zL P k).1 (zL P k).2 n := by
    intro n
    induction n with
    | zero => intro e _ m s f l hf; obtain ⟨l0, ts, lr, h1, -⟩ := hf; exact h1.elim
    | succ n ih =>
      intro e he m s f l hf hl hW hR ho
      obtain ⟨e, rfl⟩ : ∃ j, e = j + 2 := ⟨e - 2, by omega⟩
      rw [ygE3]
      refine yq_sum iT iC oT oC (n := n + 1) (fun m s t l ht hl hW hR ho => ?_) hf hl hW hR ho
      rw [ygE4]
      exact yq_term (h e (by omega)).1 (h e (by omega)).2 iT oT (ih e (by omega)) ht hl hW hR ho
  have hA : ∀ e, e0 + 19 ≤ e → yQA N b K P k (gX9_comesTo N e) (zL P k).1 (zL P k).2 := by
    intro e he m s a d ha hd hW hR ho
    obtain ⟨e, rfl⟩ : ∃ j, e = j + 1 := ⟨e - 1, by omega⟩
    rw [ygE2]
    exact yV_Q (yq_act (h e (by omega)).1 (hS 9 e (by omega)) iT iC oT oC ha hd hW hR ho)
  refine ⟨hS 9, hA, fun e he m s x hx hx1 hW hR ho => ?_⟩
  obtain ⟨e, rfl⟩ : ∃ j, e = j + 1 := ⟨e - 1, by omega⟩
  rw [ygE1]
  exact yV_Q (yq_does (hS 9 e (by omega)) (hA e (by omega)) iT iC oT oC (zK1_L P (x / 12) k).1 (zK1_L P (x / 12) k).2 hx hx1 hW hR ho)
theorem yg_all {N : Nat → Nat} {b : Bool} {P : zP} {K : Nat → Int32} (hw : zwf P) : ∀ k e, 21 * k + 1 ≤ e → yQT N b K P k (gX9_comesTo N e) (zL P k).1 ∧ yQC N b K P k (gX9_comesTo N e) (zL P k).2
  | 0, e, he => by
    obtain ⟨e, rfl⟩ : ∃ j, e = j + 1 := ⟨e - 1, by omega⟩
    refine ⟨fun m s u hu hW hR ho => ?_, fun m s x hx hxk hW hR ho => ?_⟩
    · rw [ygE0]; exact yV_Q (yq_comes (R := gX9_comesTo N e) hu hW hR (fun _ => yq_new0 hW hR (by omega)))
    · rw [ygE5]; exact yq_call0 hx hxk hW hR (by omega)
  | k + 1, e, he => by
    obtain ⟨e, rfl⟩ : ∃ j, e = j + 1 := ⟨e - 1, by omega⟩
    obtain ⟨iT, iC⟩ := zI_L hw k
    obtain ⟨oT, oC⟩ := zKo_L P k
    have ih := yg_all (N := N) (b := b) (K := K) hw k
    obtain ⟨hS, hA, hM⟩ := yg_rest hw ih
    refine ⟨fun m s u hu hW hR ho => ?_, fun m s x hx hxk hW hR ho => ?_⟩
    · rw [ygE0]; exact yV_Q (yq_comes (R := gX9_comesTo N e) hu hW hR (fun h0 => yq_new (ih e (by omega)).1 (hM e (by omega)) iT iC oT oC (zK1_L P u k).1 (zK1_L P u k).2 hu hW hR h0 ho))
    · rw [ygE5]; exact yq_call (hA e (by omega)) (hS e (by omega)) iT iC oT oC hx hxk hW hR ho
theorem yg_act {N : Nat → Nat} {b : Bool} {P : zP} {K : Nat → Int32} (hw : zwf P) : yQA N b K P 20 (gX9_comesTo N 600) (zL P 20).1 (zL P 20).2 := (yg_rest hw (yg_all hw 20)).2.1 600 (by omega)
theorem yg_touch {N : Nat → Nat} {b : Bool} {P : zP} {K : Nat → Int32} (hw : zwf P) : yQT N b K P 20 (gX9_comesTo N 600) (zL P 20).1 := (yg_all hw 20 600 (by omega)).1
