/-! ===== z: the spec keeps what is open ===== -/
theorem zopn_note (P : zP) (m : Nat) (s : zS) : zopn (zNote P m s) = zopn s := by
  unfold zNote; split <;> rfl
def zKo (T : Nat → zS → zR) : Prop := ∀ u s, (T u s).1 ≠ 2 → zopn (T u s).2.2 = zopn s
def zK2 (T : Nat → zS → zR) : Prop := ∀ u s, (T u s).1 ≤ 2
theorem zK_bind {r : zR} {k : Int32 → zS → zR} {o : List Nat} (h1 : r.1 ≠ 2 → zopn r.2.2 = o) (h2 : r.1 = 0 → (k r.2.1 r.2.2).1 ≠ 2 → zopn (k r.2.1 r.2.2).2.2 = zopn r.2.2) : (zbind r k).1 ≠ 2 → zopn (zbind r k).2.2 = o := by
  intro h
  by_cases h0 : r.1 = 0
  · rw [zbind_p h0] at h ⊢
    rw [h2 h0 h, h1 (by omega)]
  · rw [zbind_n h0] at h ⊢
    exact h1 h
theorem zB2 {r : zR} {k : Int32 → zS → zR} (h1 : r.1 ≤ 2) (h2 : ∀ v s, (k v s).1 ≤ 2) : (zbind r k).1 ≤ 2 := by
  unfold zbind; split
  · exact h2 _ _
  · exact h1
section ZK
variable {P : zP} {T C : Nat → zS → zR} (hT : zKo T) (hC : zKo C) (hT2 : zK2 T) (hC2 : zK2 C)
theorem zKo_term (hT : zKo T) (hC : zKo C) (c : zCode) (s : zS) : (zTerm P T C c s).1 ≠ 2 → zopn (zTerm P T C c s).2.2 = zopn s := by
  unfold zTerm
  split
  · split
    · intro _; rfl
    · split
      · exact zK_bind (fun h => hT _ _ h) (fun _ _ => zopn_note _ _ _)
      · split
        · exact zK_bind (fun h => hT _ _ h) (fun _ h => hC _ _ h)
        · intro _; rfl
  · intro h; exact absurd rfl h
theorem zK2_term (hT : zK2 T) (hC : zK2 C) (c : zCode) (s : zS) : (zTerm P T C c s).1 ≤ 2 := by
  unfold zTerm
  split
  · split
    · exact Nat.zero_le _
    · split
      · exact zB2 (hT _ _) (fun _ _ => Nat.zero_le _)
      · split
        · exact zB2 (hT _ _) (fun _ _ => hC _ _)
        · exact Nat.le_succ 1
  · exact Nat.le_refl 2
theorem zKo_ev (hT : zKo T) (hC : zKo C) : ∀ (l : List zCode) (k : List Int32) (s : zS), (zEv P T C l k s).1 ≠ 2 → zopn (zEv P T C l k s).2.2 = zopn s
  | [], _, _ => fun _ => rfl
  | c :: cs, k, s => by
    unfold zEv
    split
    · exact zKo_ev hT hC cs _ s
    · exact zK_bind (zKo_term hT hC c s) (fun _ => zKo_ev hT hC cs _ _)
theorem zK2_ev (hT : zK2 T) (hC : zK2 C) : ∀ (l : List zCode) (k : List Int32) (s : zS), (zEv P T C l k s).1 ≤ 2
  | [], _, _ => Nat.zero_le _
  | c :: cs, k, s => by
    unfold zEv
    split
    · exact zK2_ev hT hC cs _ s
    · exact zB2 (zK2_term hT hC c s) (fun _ _ => zK2_ev hT hC cs _ _)
theorem zKo_do (hT : zKo T) (hC : zKo C) (d : zDeed) (s : zS) : (zDo P T C d s).1 ≠ 2 → zopn (zDo P T C d s).2.2 = zopn s := by
  unfold zDo
  refine zK_bind (zKo_ev hT hC _ _ _) (fun _ => ?_)
  cases d.2 with
  | none => intro _; rfl
  | some m =>
    refine zK_bind (fun h => hT _ _ h) (fun _ => ?_)
    split
    · intro _; rfl
    · intro h; exact absurd rfl h
theorem zK2_do (hT : zK2 T) (hC : zK2 C) (d : zDeed) (s : zS) : (zDo P T C d s).1 ≤ 2 := by
  unfold zDo
  refine zB2 (zK2_ev hT hC _ _ _) (fun v s1 => ?_)
  cases d.2 with
  | none => exact Nat.zero_le _
  | some m =>
    refine zB2 (hT _ _) (fun _ s2 => ?_)
    split
    · exact Nat.zero_le _
    · exact Nat.le_refl 2
theorem zKo_dos (hT : zKo T) (hC : zKo C) : ∀ (l : List zDeed) (v : Int32) (s : zS), (zDos P T C l v s).1 ≠ 2 → zopn (zDos P T C l v s).2.2 = zopn s
  | [], _, _ => fun _ => rfl
  | d :: ds, v, s => by
    unfold zDos
    exact zK_bind (zKo_do hT hC d s) (fun _ => zKo_dos hT hC ds _ _)
theorem zK2_dos (hT : zK2 T) (hC : zK2 C) : ∀ (l : List zDeed) (v : Int32) (s : zS), (zDos P T C l v s).1 ≤ 2
  | [], _, _ => Nat.zero_le _
  | d :: ds, v, s => by
    unfold zDos
    exact zB2 (zK2_do hT hC d s) (fun _ _ => zK2_dos hT hC ds _ _)
theorem zKo_mem (hT : zKo T) (hC : zKo C) (m : Nat) (s : zS) : (zMem P T C m s).1 ≠ 2 → zopn (zMem P T C m s).2.2 = zopn s := by
  unfold zMem
  split
  · cases zini P m with
    | none => intro _; rfl
    | some d => exact zK_bind (zKo_do hT hC d s) (fun _ _ => by dsimp only; split <;> rfl)
  · intro _; rfl
theorem zK2_mem (hT : zK2 T) (hC : zK2 C) (m : Nat) (s : zS) : (zMem P T C m s).1 ≤ 2 := by
  unfold zMem
  split
  · cases zini P m with
    | none => exact Nat.zero_le _
    | some d => exact zB2 (zK2_do hT hC d s) (fun _ _ => Nat.zero_le _)
  · exact Nat.zero_le _
theorem zKo_mems (hT : zKo T) (hC : zKo C) : ∀ (l : List Nat) (s : zS), (zMems P T C l s).1 ≠ 2 → zopn (zMems P T C l s).2.2 = zopn s
  | [], _ => fun _ => rfl
  | d :: ds, s => by
    unfold zMems
    exact zK_bind (zKo_mem hT hC d s) (fun _ => zKo_mems hT hC ds _)
theorem zK2_mems (hT : zK2 T) (hC : zK2 C) : ∀ (l : List Nat) (s : zS), (zMems P T C l s).1 ≤ 2
  | [], _ => Nat.zero_le _
  | d :: ds, s => by
    unfold zMems
    exact zB2 (zK2_mem hT hC d s) (fun _ _ => zK2_mems hT hC ds _)
end ZK
theorem zK2_close (u : Nat) {r : zR} (h : r.1 ≤ 2) : (zClose u r).1 ≤ 2 := by
  unfold zClose
  split
  · exact Nat.zero_le _
  · split
    · exact Nat.le_succ 1
    · exact h
theorem zK2_L (P : zP) : ∀ k, zK2 (zL P k).1 ∧ zK2 (zL P k).2
  | 0 => by
    refine ⟨fun u s => ?_, fun u s => Nat.le_refl 2⟩
    show (if zst s u = 0 then _ else _ : zR).1 ≤ 2
    split
    · exact Nat.le_refl 2
    · split
      · exact Nat.le_succ 1
      · exact Nat.zero_le _
  | k + 1 => by
    obtain ⟨hT, hC⟩ := zK2_L P k
    refine ⟨fun u s => ?_, fun m s => ?_⟩
    · show (if zst s u = 0 then _ else _ : zR).1 ≤ 2
      split
      · split
        · refine zK2_close u (zB2 ?_ (fun _ _ => zK2_mems hT hC _ _))
          split
          · exact Nat.zero_le _
          · exact hT _ _
        · exact Nat.le_refl 2
      · split
        · exact Nat.le_succ 1
        · exact Nat.zero_le _
    · show (zPop _).1 ≤ 2
      unfold zPop
      split
      · exact zK2_dos hT hC _ _ _
      · exact zK2_dos hT hC _ _ _
theorem zKo_L (P : zP) : ∀ k, zKo (zL P k).1 ∧ zKo (zL P k).2
  | 0 => by
    refine ⟨fun u s => ?_, fun u s h => absurd rfl h⟩
    show (if zst s u = 0 then _ else _ : zR).1 ≠ 2 → zopn (if zst s u = 0 then _ else _ : zR).2.2 = _
    split
    · intro h; exact absurd rfl h
    · split <;> exact fun _ => rfl
  | k + 1 => by
    obtain ⟨hT, hC⟩ := zKo_L P k
    obtain ⟨hT2, hC2⟩ := zK2_L P k
    refine ⟨fun u s => ?_, fun m s => ?_⟩
    · show (if zst s u = 0 then _ else _ : zR).1 ≠ 2 → zopn (if zst s u = 0 then _ else _ : zR).2.2 = _
      split
      · split
        · generalize hr : zbind _ _ = r
          have key : r.1 ≠ 2 → zopn r.2.2 = (u * 100 + 99) :: zopn s := by
            rw [← hr]
            refine zK_bind (fun h => ?_) (fun _ => zKo_mems hT hC _ _)
            split at h
            · rfl
            · exact hT _ _ h
          unfold zClose
          split
          · intro _; show (zopn r.2.2).tail = _; rw [key (by omega)]; rfl
          · split
            · intro _; show (zopn r.2.2).tail = _; rw [key (by omega)]; rfl
            · intro h
              have : r.1 ≤ 2 := by
                rw [← hr]
                refine zB2 ?_ (fun _ _ => zK2_mems hT2 hC2 _ _)
                split
                · exact Nat.zero_le _
                · exact hT2 _ _
              omega
        · intro h; exact absurd rfl h
      · split <;> exact fun _ => rfl
    · show (zPop _).1 ≠ 2 → zopn (zPop _).2.2 = _
      unfold zPop
      split
      · intro h; exact absurd ‹_› h
      · intro h
        show (zopn _).tail = _
        rw [zKo_dos hT hC _ _ _ h]; rfl
theorem zUn_opn (x : List Nat) : ∀ (l : List Nat) (s : zS), zUn l (zs_opn s x) = zUn l s
  | [], _ => rfl
  | a :: l, s => by
    unfold zUn
    refine Eq.trans ?_ (zUn_opn x l _)
    congr 1
    split <;> rfl
