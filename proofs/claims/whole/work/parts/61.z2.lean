/-! ===== z: what is told, and what a run of it does ===== -/
/-- a code: kind (0 number, 1 read, 2 call, 3 fail, 4 add, 5 take, 6 times), operand -/
abbrev zCode : Type := Nat × Nat
/-- a sum, and the variable that it sets -/
abbrev zDeed : Type := List zCode × Option Nat
/-- units: number, letters, above, numbers of members; members: kinds, names, numbers, sums, deeds of functions; steps; places and switches -/
abbrev zP : Type := (Nat × (Nat → Nat) × (Nat → Option Nat) × (Nat → Nat)) × ((Nat → Nat) × (Nat → Option Nat) × (Nat → Option Nat) × (Nat → Option zDeed) × (Nat → List zDeed)) × List zDeed × (Nat → Nat → Nat) × (Nat → Bool)
def zn (P : zP) : Nat := P.1.1
def zlet (P : zP) : Nat → Nat := P.1.2.1
def zabv (P : zP) : Nat → Option Nat := P.1.2.2.1
def zcnt (P : zP) : Nat → Nat := P.1.2.2.2
def zknd (P : zP) : Nat → Nat := P.2.1.1
def znam (P : zP) : Nat → Option Nat := P.2.1.2.1
def znum (P : zP) : Nat → Option Nat := P.2.1.2.2.1
def zini (P : zP) : Nat → Option zDeed := P.2.1.2.2.2.1
def zfun (P : zP) : Nat → List zDeed := P.2.1.2.2.2.2
def zstp (P : zP) : List zDeed := P.2.2.1
def zplc (P : zP) : Nat → Nat → Nat := P.2.2.2.1
def zon (P : zP) : Nat → Bool := P.2.2.2.2
/-- the state of a run: states, values, made; begun and open (the latest first); work; surprises (member, value, work, open, step; the latest first); lost; broken; the failure under way (by, unit, how many ahead); the step, the steps that failed -/
abbrev zRec : Type := Nat × Int32 × Nat × List Nat × Nat
abbrev zS : Type := (Nat → Nat) × (Nat → Int32) × (Nat → Bool) × List Nat × List Nat × Nat × List zRec × Nat × (Nat → Nat × Int32 × Nat) × (Nat × Int32 × Nat) × Nat × Nat
def zst (s : zS) : Nat → Nat := s.1
def zval (s : zS) : Nat → Int32 := s.2.1
def zmk (s : zS) : Nat → Bool := s.2.2.1
def zbeg (s : zS) : List Nat := s.2.2.2.1
def zopn (s : zS) : List Nat := s.2.2.2.2.1
def zwk (s : zS) : Nat := s.2.2.2.2.2.1
def zsur (s : zS) : List zRec := s.2.2.2.2.2.2.1
def zlos (s : zS) : Nat := s.2.2.2.2.2.2.2.1
def zbrk (s : zS) : Nat → Nat × Int32 × Nat := s.2.2.2.2.2.2.2.2.1
def zfl (s : zS) : Nat × Int32 × Nat := s.2.2.2.2.2.2.2.2.2.1
def zsp (s : zS) : Nat := s.2.2.2.2.2.2.2.2.2.2.1
def zfs (s : zS) : Nat := s.2.2.2.2.2.2.2.2.2.2.2
def zs_st (s : zS) (x : Nat → Nat) : zS := (x, s.2)
def zs_val (s : zS) (x : Nat → Int32) : zS := (s.1, x, s.2.2)
def zs_mk (s : zS) (x : Nat → Bool) : zS := (s.1, s.2.1, x, s.2.2.2)
def zs_beg (s : zS) (x : List Nat) : zS := (s.1, s.2.1, s.2.2.1, x, s.2.2.2.2)
def zs_opn (s : zS) (x : List Nat) : zS := (s.1, s.2.1, s.2.2.1, s.2.2.2.1, x, s.2.2.2.2.2)
def zs_wk (s : zS) (x : Nat) : zS := (s.1, s.2.1, s.2.2.1, s.2.2.2.1, s.2.2.2.2.1, x, s.2.2.2.2.2.2)
def zs_sur (s : zS) (x : List zRec) : zS := (s.1, s.2.1, s.2.2.1, s.2.2.2.1, s.2.2.2.2.1, s.2.2.2.2.2.1, x, s.2.2.2.2.2.2.2)
def zs_los (s : zS) (x : Nat) : zS := (s.1, s.2.1, s.2.2.1, s.2.2.2.1, s.2.2.2.2.1, s.2.2.2.2.2.1, s.2.2.2.2.2.2.1, x, s.2.2.2.2.2.2.2.2)
def zs_brk (s : zS) (x : Nat → Nat × Int32 × Nat) : zS := (s.1, s.2.1, s.2.2.1, s.2.2.2.1, s.2.2.2.2.1, s.2.2.2.2.2.1, s.2.2.2.2.2.2.1, s.2.2.2.2.2.2.2.1, x, s.2.2.2.2.2.2.2.2.2)
def zs_fl (s : zS) (x : Nat × Int32 × Nat) : zS := (s.1, s.2.1, s.2.2.1, s.2.2.2.1, s.2.2.2.2.1, s.2.2.2.2.2.1, s.2.2.2.2.2.2.1, s.2.2.2.2.2.2.2.1, s.2.2.2.2.2.2.2.2.1, x, s.2.2.2.2.2.2.2.2.2.2)
def zs_sp (s : zS) (x : Nat) : zS := (s.1, s.2.1, s.2.2.1, s.2.2.2.1, s.2.2.2.2.1, s.2.2.2.2.2.1, s.2.2.2.2.2.2.1, s.2.2.2.2.2.2.2.1, s.2.2.2.2.2.2.2.2.1, s.2.2.2.2.2.2.2.2.2.1, x, zfs s)
def zs_fs (s : zS) (x : Nat) : zS := (s.1, s.2.1, s.2.2.1, s.2.2.2.1, s.2.2.2.2.1, s.2.2.2.2.2.1, s.2.2.2.2.2.2.1, s.2.2.2.2.2.2.2.1, s.2.2.2.2.2.2.2.2.1, s.2.2.2.2.2.2.2.2.2.1, zsp s, x)
def zset {α : Type} (f : Nat → α) (k : Nat) (v : α) : Nat → α := fun j => if j = k then v else f j
theorem zset_eq {α : Type} (f : Nat → α) (k : Nat) (v : α) : zset f k v k = v := if_pos rfl
theorem zset_ne {α : Type} (f : Nat → α) {k j : Nat} (v : α) (h : j ≠ k) : zset f k v j = f j := if_neg h
/-- an end: 0 well, 1 a failure, 2 too much; a number; the state -/
abbrev zR : Type := Nat × Int32 × zS
def zbind (r : zR) (k : Int32 → zS → zR) : zR := if r.1 = 0 then k r.2.1 r.2.2 else r
theorem zbind_0 (v : Int32) (s : zS) (k : Int32 → zS → zR) : zbind (0, v, s) k = k v s := rfl
theorem zbind_n {r : zR} (h : r.1 ≠ 0) (k : Int32 → zS → zR) : zbind r k = r := if_neg h
theorem zbind_p {r : zR} (h : r.1 = 0) (k : Int32 → zS → zR) : zbind r k = k r.2.1 r.2.2 := if_pos h
def zEarly (P : zP) (m : Nat) (s : zS) : Bool := zst s (m / 12) == 1 && (zini P m).isSome && !(zmk s m)
def zNote (P : zP) (m : Nat) (s : zS) : zS := if zEarly P m s then zs_sur s ((m, zval s m, zwk s, zopn s, zsp s) :: zsur s) else s
def zTerm (P : zP) (T C : Nat → zS → zR) (c : zCode) (s : zS) : zR :=
  if zwk s < 3000 then
    if c.1 = 0 then (0, zN c.2, zs_wk s (zwk s + 1))
    else if c.1 = 1 then zbind (T (c.2 / 12) (zs_wk s (zwk s + 1))) fun _ s2 => (0, zval s2 c.2, zNote P c.2 s2)
    else if c.1 = 2 then zbind (T (c.2 / 12) (zs_wk s (zwk s + 1))) fun _ s2 => C c.2 s2
    else (1, 0, zs_fl (zs_wk s (zwk s + 1)) (1, zM, 0))
  else (2, 0, s)
def zJoin (k : Nat) (a b : Int32) : Int32 := if k = 4 then a + b else if k = 5 then a - b else a * b
def zEv (P : zP) (T C : Nat → zS → zR) : List zCode → List Int32 → zS → zR
  | [], l, s => (0, l.headD 0, s)
  | c :: cs, l, s => if 4 ≤ c.1 then zEv P T C cs (zJoin c.1 (l.tail.headD 0) (l.headD 0) :: l.tail.tail) s
    else zbind (zTerm P T C c s) fun v s1 => zEv P T C cs (v :: l) s1
def zDo (P : zP) (T C : Nat → zS → zR) (d : zDeed) (s : zS) : zR :=
  zbind (zEv P T C d.1 [] s) fun v s1 => match d.2 with
    | none => (0, v, s1)
    | some m => zbind (T (m / 12) s1) fun _ s2 =>
      if zwk s2 < 3000 then (0, v, zs_val (zs_los (zs_wk s2 (zwk s2 + 1)) (if zEarly P m s2 then zlos s2 + 1 else zlos s2)) (zset (zval s2) m v)) else (2, 0, s2)
def zDos (P : zP) (T C : Nat → zS → zR) : List zDeed → Int32 → zS → zR
  | [], v, s => (0, v, s)
  | d :: ds, _, s => zbind (zDo P T C d s) fun v s1 => zDos P T C ds v s1
def zMem (P : zP) (T C : Nat → zS → zR) (m : Nat) (s : zS) : zR :=
  if zon P m then match zini P m with
    | none => (0, 0, s)
    | some d => zbind (zDo P T C d s) fun v s1 => (0, 0, if zknd P m = 1 then zs_mk (zs_val s1 (zset (zval s1) m v)) (zset (zmk s1) m true) else s1)
  else (0, 0, s)
def zMems (P : zP) (T C : Nat → zS → zR) : List Nat → zS → zR
  | [], s => (0, 0, s)
  | m :: ms, s => zbind (zMem P T C m s) fun _ s1 => zMems P T C ms s1
/-- a unit's members as they stand -/
def zmb (P : zP) (u : Nat) : Nat → Nat → List Nat
  | 0, _ => []
  | d + 1, i => (12 * u + zplc P u i) :: zmb P u d (i + 1)
def zmbs (P : zP) (u : Nat) : List Nat := zmb P u (zcnt P u) 0
def zClose (u : Nat) (r : zR) : zR :=
  if r.1 = 0 then (0, 0, zs_opn (zs_st r.2.2 (zset (zst r.2.2) u 2)) (zopn r.2.2).tail)
  else if r.1 = 1 then (1, 0, zs_fl (zs_brk (zs_opn (zs_st r.2.2 (zset (zst r.2.2) u 3)) (zopn r.2.2).tail) (zset (zbrk r.2.2) u (zfl r.2.2))) ((zfl r.2.2).1, (zfl r.2.2).2.1, (zfl r.2.2).2.2 + 1))
  else r
def zPop (r : zR) : zR := if r.1 = 2 then r else (r.1, r.2.1, zs_opn r.2.2 (zopn r.2.2).tail)
def zBegin (P : zP) (u : Nat) (s : zS) : zS :=
  zs_mk (zs_beg (zs_st (zs_wk (zs_opn s ((u * 100 + 99) :: zopn s)) (zwk s + 1)) (zset (zst s) u 1)) (u :: zbeg s)) (fun m => if m / 12 = u then false else zmk s m)
/-- level k: k more may be open -/
def zL (P : zP) : Nat → (Nat → zS → zR) × (Nat → zS → zR)
  | 0 => (fun u s => if zst s u = 0 then (2, 0, s) else if zst s u = 3 then (1, 0, zs_fl s (2, zN u, 0)) else (0, 0, s), fun _ s => (2, 0, s))
  | k + 1 => (fun u s => if zst s u = 0 then
        if zwk s < 3000 then zClose u (zbind (match zabv P u with
            | none => (0, 0, zBegin P u s)
            | some a => (zL P k).1 a (zBegin P u s)) fun _ s1 => zMems P (zL P k).1 (zL P k).2 (zmbs P u) s1)
        else (2, 0, s)
      else if zst s u = 3 then (1, 0, zs_fl s (2, zN u, 0)) else (0, 0, s),
    fun m s => zPop (zDos P (zL P k).1 (zL P k).2 (zfun P m) 0 (zs_opn s ((m / 12 * 100 + (znam P m).getD 0) :: zopn s))))
/-- a failure goes up: all that is open ends -/
def zUn : List Nat → zS → zS
  | [], s => zs_opn s []
  | x :: l, s => zUn l (if x % 100 = 99 then zs_fl (zs_brk (zs_st s (zset (zst s) (x / 100) 3)) (zset (zbrk s) (x / 100) (zfl s))) ((zfl s).1, (zfl s).2.1, (zfl s).2.2 + 1) else s)
/-- what may be told of a program -/
def zcw : List zCode → Nat → Prop
  | [], d => d = 1
  | c :: cs, d => if 4 ≤ c.1 then c.1 ≤ 6 ∧ 2 ≤ d ∧ zcw cs (d - 1) else c.2 < 1000 ∧ d < 8 ∧ zcw cs (d + 1)
def zok (P : zP) (m : Nat) : Prop := m / 12 < zn P ∧ m % 12 < zcnt P (m / 12)
def zcok (P : zP) (l : List zCode) : Prop := zcw l 0 ∧ ∀ c ∈ l, (c.1 = 1 → zok P c.2 ∧ zknd P c.2 = 1) ∧ (c.1 = 2 → zok P c.2 ∧ zknd P c.2 = 4)
def zdok (P : zP) (d : zDeed) : Prop := zcok P d.1 ∧ ∀ m, d.2 = some m → zok P m ∧ zknd P m = 1
def zwf (P : zP) : Prop := zn P ≤ 7 ∧ (∀ u, u < zn P → zcnt P u ≤ 12 ∧ zlet P u < 7 ∧ (∀ a, zabv P u = some a → a < zn P) ∧ ∀ i, i < zcnt P u → zplc P u i < zcnt P u)
  ∧ (∀ m, zok P m → zknd P m ≤ 4 ∧ (∀ d, zini P m = some d → zdok P d) ∧ (∀ d ∈ zfun P m, zdok P d) ∧ (zknd P m = 4 → zini P m = none ∧ (∃ l d, zfun P m = l ++ [(d, none)]) ∧ (znam P m).isSome) ∧ (zknd P m = 1 → ∀ d, zini P m = some d → d.2 = none) ∧ ∀ x, znam P m = some x → x < 26)
  ∧ (zstp P).length ≤ 10 ∧ ∀ d ∈ zstp P, zdok P d
