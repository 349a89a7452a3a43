/-! The small machine: values, heap, one step, paths. -/
/-- an int; a handle (0: null); nothing (a local that was never set) -/
abbrev AV : Type := Int32 ⊕ Option Nat
abbrev vI (x : Int32) : AV := Sum.inl x
abbrev vR (a : Nat) : AV := Sum.inr (some a)
abbrev vU : AV := Sum.inr none
/-- ((next handle, slots used), kinds, ints, handles) -/
abbrev AH : Type := (Nat × Nat) × (Nat → Nat × Nat) × (Nat → Nat → Int32) × (Nat → Nat → Nat)
def nx (H : AH) : Nat := H.1.1
def su (H : AH) : Nat := H.1.2
def kd (H : AH) (a : Nat) : Nat × Nat := H.2.1 a
def gi (H : AH) (a k : Nat) : Int32 := H.2.2.1 a k
def gr (H : AH) (a k : Nat) : Nat := H.2.2.2 a k
def sm_u2 {α : Type} (f : Nat → Nat → α) (a k : Nat) (x : α) : Nat → Nat → α := fun b j => if b = a ∧ j = k then x else f b j
def si (H : AH) (a k : Nat) (x : Int32) : AH := (H.1, H.2.1, sm_u2 H.2.2.1 a k x, H.2.2.2)
def sr (H : AH) (a k r : Nat) : AH := (H.1, H.2.1, H.2.2.1, sm_u2 H.2.2.2 a k r)
/-- a new cell of kind (c, n) with w slots -/
def al (H : AH) (c n w : Nat) : AH :=
  ((H.1.1 + 1, H.1.2 + w), fun b => if b = H.1.1 then (c, n) else H.2.1 b, fun b j => if b = H.1.1 then 0 else H.2.2.1 b j, fun b j => if b = H.1.1 then 0 else H.2.2.2 b j)
/-- n ints from a, place p, to b, place q -/
def cp (H : AH) (a p b q n : Nat) : AH :=
  (H.1, H.2.1, fun c j => if c = b ∧ q ≤ j ∧ j < q + n then H.2.2.1 a (p + (j - q)) else H.2.2.1 c j, H.2.2.2)
theorem nx_si {H : AH} {a k : Nat} {x : Int32} : nx (si H a k x) = nx H := rfl
theorem su_si {H : AH} {a k : Nat} {x : Int32} : su (si H a k x) = su H := rfl
theorem kd_si {H : AH} {a k b : Nat} {x : Int32} : kd (si H a k x) b = kd H b := rfl
theorem gr_si {H : AH} {a k b j : Nat} {x : Int32} : gr (si H a k x) b j = gr H b j := rfl
theorem gi_si {H : AH} {a k b j : Nat} {x : Int32} : gi (si H a k x) b j = if b = a ∧ j = k then x else gi H b j := rfl
theorem nx_sr {H : AH} {a k x : Nat} : nx (sr H a k x) = nx H := rfl
theorem su_sr {H : AH} {a k x : Nat} : su (sr H a k x) = su H := rfl
theorem kd_sr {H : AH} {a k x b : Nat} : kd (sr H a k x) b = kd H b := rfl
theorem gi_sr {H : AH} {a k x b j : Nat} : gi (sr H a k x) b j = gi H b j := rfl
theorem gr_sr {H : AH} {a k x b j : Nat} : gr (sr H a k x) b j = if b = a ∧ j = k then x else gr H b j := rfl
theorem nx_al {H : AH} {c n w : Nat} : nx (al H c n w) = nx H + 1 := rfl
theorem su_al {H : AH} {c n w : Nat} : su (al H c n w) = su H + w := rfl
theorem kd_al {H : AH} {c n w b : Nat} : kd (al H c n w) b = if b = nx H then (c, n) else kd H b := rfl
theorem gi_al {H : AH} {c n w b j : Nat} : gi (al H c n w) b j = if b = nx H then 0 else gi H b j := rfl
theorem gr_al {H : AH} {c n w b j : Nat} : gr (al H c n w) b j = if b = nx H then 0 else gr H b j := rfl
theorem nx_cp {H : AH} {a p b q n : Nat} : nx (cp H a p b q n) = nx H := rfl
theorem su_cp {H : AH} {a p b q n : Nat} : su (cp H a p b q n) = su H := rfl
theorem kd_cp {H : AH} {a p b q n c : Nat} : kd (cp H a p b q n) c = kd H c := rfl
theorem gr_cp {H : AH} {a p b q n c j : Nat} : gr (cp H a p b q n) c j = gr H c j := rfl
theorem gi_cp {H : AH} {a p b q n c j : Nat} : gi (cp H a p b q n) c j = if c = b ∧ q ≤ j ∧ j < q + n then gi H a (p + (j - q)) else gi H c j := rfl
/-- (opcode, constant, two numbers, targets) -/
abbrev Ins : Type := Nat × Int32 × Nat × Nat × List Nat
abbrev SC : Type := List (Option (Ins × Nat))
def sm_nth {α : Type} : List α → Nat → Option α
  | [], _ => none
  | x :: _, 0 => some x
  | _ :: xs, n + 1 => sm_nth xs n
def sm_set {α : Type} : List α → Nat → α → List α
  | [], _, _ => []
  | _ :: xs, 0, y => y :: xs
  | x :: xs, n + 1, y => x :: sm_set xs n y
/-- kinds: 1 int[], 2 char[], 3 boolean[], 4 the script, 5 a text constant (its number), 20 + c: an object of number c; 60 + c: a row of such objects -/
def sm_fits (t : Nat) (x : Int32) : Prop := match t with
  | 1 => x = 0 ∨ x = 1
  | 2 => ∃ n : Nat, n < 65536 ∧ x = nI n
  | _ => True
/-- one instruction that is no branch, call or return: what it asks, and the state behind it. Opcodes: 0 constant, 1 int local, 2 reference local, 3 and 4 their stores, 5 iinc,
6 .. 17 arithmetic, 20 .. 23 the stack, 30 getfield (int), 31 getfield (reference), 32, 33 putfield, 34 .. 37 loads of int, char, boolean, reference rows, 38 .. 41 stores,
42 newarray, 43 anewarray, 44 new, 45 arraylength of the script, 46 its load, 47 goto, 48 a text constant, 49, 50 Math.min, max, 51 arraycopy, 52 Object(), 53 null, 54 length, 55 charAt of a text constant -/
def ast (txt : Nat → List Int32) (i : Ins) (len pc : Nat) (ls st : List AV) (H : AH) : Option (Option Prop × Nat × List AV × List AV × AH) :=
  match i.1, st with
  | 0, st => some (none, pc + len, ls, vI i.2.1 :: st, H)
  | 1, st => match sm_nth ls i.2.2.1 with
    | some (.inl x) => some (none, pc + len, ls, vI x :: st, H)
    | _ => none
  | 2, st => match sm_nth ls i.2.2.1 with
    | some (.inr (some a)) => some (none, pc + len, ls, vR a :: st, H)
    | _ => none
  | 3, .inl x :: st => some (none, pc + len, sm_set ls i.2.2.1 (vI x), st, H)
  | 4, .inr (some a) :: st => some (none, pc + len, sm_set ls i.2.2.1 (vR a), st, H)
  | 5, st => match sm_nth ls i.2.2.1 with
    | some (.inl x) => some (none, pc + len, sm_set ls i.2.2.1 (vI (x + i.2.1)), st, H)
    | _ => none
  | 6, .inl y :: .inl x :: st => some (none, pc + len, ls, vI (x + y) :: st, H)
  | 7, .inl y :: .inl x :: st => some (none, pc + len, ls, vI (x - y) :: st, H)
  | 8, .inl y :: .inl x :: st => some (none, pc + len, ls, vI (x * y) :: st, H)
  | 9, .inl y :: .inl x :: st => some (some (¬ y = 0), pc + len, ls, vI (x / y) :: st, H)
  | 10, .inl y :: .inl x :: st => some (some (¬ y = 0), pc + len, ls, vI (x - x / y * y) :: st, H)
  | 11, .inl y :: .inl x :: st => some (none, pc + len, ls, vI (x &&& y) :: st, H)
  | 12, .inl y :: .inl x :: st => some (none, pc + len, ls, vI (x ||| y) :: st, H)
  | 13, .inl y :: .inl x :: st => some (none, pc + len, ls, vI (x ^^^ y) :: st, H)
  | 14, .inl y :: .inl x :: st => some (none, pc + len, ls, vI (x <<< (y &&& 31)) :: st, H)
  | 15, .inl y :: .inl x :: st => some (none, pc + len, ls, vI (x >>> (y &&& 31)) :: st, H)
  | 16, .inl x :: st => some (none, pc + len, ls, vI (-x) :: st, H)
  | 17, .inl x :: st => some (none, pc + len, ls, vI ((x.toUInt32 % 65536).toInt32) :: st, H)
  | 20, a :: st => some (none, pc + len, ls, a :: a :: st, H)
  | 21, a :: b :: st => some (none, pc + len, ls, a :: b :: a :: st, H)
  | 22, a :: b :: st => some (none, pc + len, ls, a :: b :: a :: b :: st, H)
  | 23, _ :: st => some (none, pc + len, ls, st, H)
  | 30, .inr (some a) :: st => some (some ((kd H a).1 = 20 + i.2.2.1), pc + len, ls, vI (gi H a i.2.2.2.1) :: st, H)
  | 31, .inr (some a) :: st => some (some ((kd H a).1 = 20 + i.2.2.1), pc + len, ls, vR (gr H a i.2.2.2.1) :: st, H)
  | 32, .inl x :: .inr (some a) :: st => some (some ((kd H a).1 = 20 + i.2.2.1 ∧ sm_fits (i.2.2.2.2.getD 1 0) x), pc + len, ls, st, si H a i.2.2.2.1 x)
  | 33, .inr (some r) :: .inr (some a) :: st => some (some ((kd H a).1 = 20 + i.2.2.1), pc + len, ls, st, sr H a i.2.2.2.1 r)
  | 34, .inl j :: .inr (some a) :: st => some (some ((kd H a).1 = 1 ∧ vp_in j (kd H a).2), pc + len, ls, vI (gi H a j.toNatClampNeg) :: st, H)
  | 35, .inl j :: .inr (some a) :: st => some (some ((kd H a).1 = 2 ∧ vp_in j (kd H a).2), pc + len, ls, vI (gi H a j.toNatClampNeg) :: st, H)
  | 36, .inl j :: .inr (some a) :: st => some (some ((kd H a).1 = 3 ∧ vp_in j (kd H a).2), pc + len, ls, vI (gi H a j.toNatClampNeg) :: st, H)
  | 37, .inl j :: .inr (some a) :: st => some (some ((kd H a).1 = 60 + i.2.2.1 ∧ vp_in j (kd H a).2), pc + len, ls, vR (gr H a j.toNatClampNeg) :: st, H)
  | 38, .inl x :: .inl j :: .inr (some a) :: st => some (some ((kd H a).1 = 1 ∧ vp_in j (kd H a).2), pc + len, ls, st, si H a j.toNatClampNeg x)
  | 39, .inl x :: .inl j :: .inr (some a) :: st => some (some ((kd H a).1 = 2 ∧ vp_in j (kd H a).2), pc + len, ls, st, si H a j.toNatClampNeg (vp_nar .char x))
  | 40, .inl x :: .inl j :: .inr (some a) :: st => some (some ((kd H a).1 = 3 ∧ vp_in j (kd H a).2), pc + len, ls, st, si H a j.toNatClampNeg (vp_nar .boolean x))
  | 41, .inr (some r) :: .inl j :: .inr (some a) :: st => some (some ((kd H a).1 = 60 + i.2.2.1 ∧ vp_in j (kd H a).2 ∧ (kd H r).1 = 20 + i.2.2.1), pc + len, ls, st, sr H a j.toNatClampNeg r)
  | 42, .inl n :: st => some (some (¬ n < 0 ∧ n.toNatClampNeg ≤ 65536), pc + len, ls, vR (nx H) :: st, al H i.2.2.1 n.toNatClampNeg n.toNatClampNeg)
  | 43, .inl n :: st => some (some (¬ n < 0 ∧ n.toNatClampNeg ≤ 65536), pc + len, ls, vR (nx H) :: st, al H (60 + i.2.2.1) n.toNatClampNeg n.toNatClampNeg)
  | 44, st => some (none, pc + len, ls, vR (nx H) :: st, al H (20 + i.2.2.1) 0 i.2.2.2.1)
  | 45, .inr (some a) :: st => some (some ((kd H a).1 = 4), pc + len, ls, vI (Int32.ofNat (kd H a).2) :: st, H)
  | 46, .inl j :: .inr (some a) :: st => some (some ((kd H a).1 = 4 ∧ vp_in j (kd H a).2), pc + len, ls, vI (gi H a j.toNatClampNeg) :: st, H)
  | 47, st => some (none, i.2.2.1, ls, st, H)
  | 48, st => some (none, pc + len, ls, vR (2 + i.2.2.1) :: st, H)
  | 49, .inl y :: .inl x :: st => some (some (st.length ≤ 8), pc + len, ls, vI (if y < x then y else x) :: st, H)
  | 50, .inl y :: .inl x :: st => some (some (st.length ≤ 8), pc + len, ls, vI (if x < y then y else x) :: st, H)
  | 51, .inl n :: .inl q :: .inr (some b) :: .inl p :: .inr (some a) :: st => some (some (st.length ≤ 8 ∧ (kd H a).1 = 2 ∧ (kd H b).1 = 2 ∧ ¬ p < 0 ∧ ¬ q < 0 ∧ ¬ n < 0 ∧ p.toNatClampNeg + n.toNatClampNeg ≤ (kd H a).2 ∧ q.toNatClampNeg + n.toNatClampNeg ≤ (kd H b).2),
      pc + len, ls, st, cp H a p.toNatClampNeg b q.toNatClampNeg n.toNatClampNeg)
  | 52, .inr (some a) :: st => some (some (a ≠ 0 ∧ st.length ≤ 8), pc + len, ls, st, H)
  | 53, st => some (none, pc + len, ls, vR 0 :: st, H)
  | 54, .inr (some a) :: st => some (some ((kd H a).1 = 5 ∧ st.length ≤ 8), pc + len, ls, vI (Int32.ofNat (txt (kd H a).2).length) :: st, H)
  | 55, .inl j :: .inr (some a) :: st => some (some ((kd H a).1 = 5 ∧ vp_in j (txt (kd H a).2).length ∧ st.length ≤ 8), pc + len, ls, vI ((txt (kd H a).2).getD j.toNatClampNeg 0) :: st, H)
  | _, _ => none
/-- the question of a branch: 70 + c compares two ints, 80 + c one with 0 (eq, ne, lt, ge, gt, le), 90 null, 91 not null; its target is the first number -/
def sm_br (i : Ins) (st : List AV) : Option (Prop × List AV) :=
  match i.1, st with
  | 70, .inl y :: .inl x :: st => some (x = y, st)
  | 71, .inl y :: .inl x :: st => some (¬ x = y, st)
  | 72, .inl y :: .inl x :: st => some (x < y, st)
  | 73, .inl y :: .inl x :: st => some (y ≤ x, st)
  | 74, .inl y :: .inl x :: st => some (y < x, st)
  | 75, .inl y :: .inl x :: st => some (x ≤ y, st)
  | 80, .inl x :: st => some (x = 0, st)
  | 81, .inl x :: st => some (¬ x = 0, st)
  | 82, .inl x :: st => some (x < 0, st)
  | 83, .inl x :: st => some (0 ≤ x, st)
  | 84, .inl x :: st => some (0 < x, st)
  | 85, .inl x :: st => some (x ≤ 0, st)
  | 90, .inr (some a) :: st => some (a = 0, st)
  | 91, .inr (some a) :: st => some (¬ a = 0, st)
  | _, _ => none
/-- a way through a method: C its code, P what a call may do; n instructions at most; to the end with answer r, heap H' -/
def Path (txt : Nat → List Int32) (P : Nat → List AV → AH → Option AV → AH → Prop) (C : SC) : Nat → Nat → List AV → List AV → AH → Option AV → AH → Prop
  | 0, _, _, _, _, _, _ => False
  | n + 1, pc, ls, st, H, r, H' => match sm_nth C pc with
    | some (some (i, len)) =>
      (i.1 = 100 ∧ ∃ x, st = [vI x] ∧ sm_fits i.2.2.1 x ∧ r = some (vI x) ∧ H' = H) ∨
      (i.1 = 101 ∧ ∃ a, st = [vR a] ∧ r = some (vR a) ∧ H' = H) ∨
      (i.1 = 102 ∧ st = [] ∧ r = none ∧ H' = H) ∨
      (i.1 = 110 ∧ ∃ as rest r1 H1, st = as.reverse ++ rest ∧ as.length = i.2.2.2.1 ∧ rest.length ≤ 8 ∧ P i.2.2.1 as H r1 H1 ∧ Path txt P C n (pc + len) ls (r1.toList ++ rest) H1 r H') ∨
      (i.1 = 120 ∧ ∃ x rest, st = vI x :: rest ∧ Path txt P C n (if x < 0 then i.2.2.1 else i.2.2.2.2.getD x.toNatClampNeg i.2.2.1) ls rest H r H') ∨
      (∃ c st', sm_br i st = some (c, st') ∧ ((c ∧ Path txt P C n i.2.2.1 ls st' H r H') ∨ (¬ c ∧ Path txt P C n (pc + len) ls st' H r H'))) ∨
      (∃ o pc' ls' st' H1, ast txt i len pc ls st H = some (o, pc', ls', st', H1) ∧ o.getD True ∧ Path txt P C n pc' ls' st' H1 r H')
    | _ => False
/-- a call: mt m = (code, number of locals, 0 or 1 + the receiver's number) -/
def Call (txt : Nat → List Int32) (mt : Nat → SC × Nat × Nat) : Nat → Nat → List AV → AH → Option AV → AH → Prop
  | 0, _, _, _, _, _ => False
  | d + 1, m, as, H, r, H' => ((mt m).2.2 = 0 ∨ ∃ a as', as = vR a :: as' ∧ (kd H a).1 + 1 = 20 + (mt m).2.2) ∧
      ∃ n, Path txt (Call txt mt d) (mt m).1 n 0 (as ++ List.replicate ((mt m).2.1 - as.length) vU) [] H r H'
def WP (txt : Nat → List Int32) (mt : Nat → SC × Nat × Nat) (d : Nat) (C : SC) (pc : Nat) (ls st : List AV) (H : AH) (Q : Option AV → AH → Prop) : Prop :=
  ∃ r H' n, Path txt (Call txt mt d) C n pc ls st H r H' ∧ Q r H'
def CWP (txt : Nat → List Int32) (mt : Nat → SC × Nat × Nat) (d m : Nat) (as : List AV) (H : AH) (Q : Option AV → AH → Prop) : Prop :=
  ∃ r H', Call txt mt d m as H r H' ∧ Q r H'
def arun (txt : Nat → List Int32) (C : SC) : Nat → Nat → List AV → List AV → AH → Option (List Prop × Nat × List AV × List AV × AH)
  | 0, pc, ls, st, H => some ([], pc, ls, st, H)
  | n + 1, pc, ls, st, H => match sm_nth C pc with
    | some (some (i, len)) => match ast txt i len pc ls st H with
      | some (o, pc1, ls1, st1, H1) => match arun txt C n pc1 ls1 st1 H1 with
        | some (ps, e) => some (o.toList ++ ps, e)
        | none => none
      | none => none
    | _ => none
def allP : List Prop → Prop
  | [] => True
  | [p] => p
  | p :: ps => p ∧ allP ps
theorem allP_cons {p : Prop} {ps : List Prop} (h : allP (p :: ps)) : p ∧ allP ps := by
  cases ps with
  | nil => exact ⟨h, trivial⟩
  | cons q qs => exact h
theorem allP_app {o : Option Prop} {ps : List Prop} (h : allP (o.toList ++ ps)) : o.getD True ∧ allP ps := by
  cases o with
  | none => exact ⟨trivial, h⟩
  | some p => exact allP_cons h
section SMW
variable {txt : Nat → List Int32} {mt : Nat → SC × Nat × Nat} {d : Nat} {C : SC} {Q : Option AV → AH → Prop}
theorem WP.run (n : Nat) {pc pc' : Nat} {ls st ls' st' : List AV} {H H' : AH} {ps : List Prop} (h : arun txt C n pc ls st H = some (ps, pc', ls', st', H')) (hp : allP ps)
    (k : WP txt mt d C pc' ls' st' H' Q) : WP txt mt d C pc ls st H Q := by
  induction n generalizing pc ls st H ps with
  | zero =>
    simp only [arun, Option.some.injEq, Prod.mk.injEq] at h
    obtain ⟨-, rfl, rfl, rfl, rfl⟩ := h
    exact k
  | succ n ih =>
    simp only [arun] at h
    split at h
    · rename_i i len hC
      split at h
      · rename_i o pc1 ls1 st1 H1 hA
        split at h
        · rename_i ps1 e1 hR
          simp only [Option.some.injEq, Prod.mk.injEq] at h
          obtain ⟨rfl, rfl⟩ := h
          obtain ⟨h1, h2⟩ := allP_app hp
          obtain ⟨r, H2, m, hP, hq⟩ := ih hR h2
          refine ⟨r, H2, m + 1, ?_, hq⟩
          rw [Path, hC]
          exact Or.inr (Or.inr (Or.inr (Or.inr (Or.inr (Or.inr ⟨o, pc1, ls1, st1, H1, hA, h1, hP⟩)))))
        · cases h
      · cases h
    · cases h
theorem WP.br {pc : Nat} {ls st st' : List AV} {H : AH} {i : Ins} {len : Nat} {c : Prop} (hC : sm_nth C pc = some (some (i, len))) (hb : sm_br i st = some (c, st'))
    (kt : c → WP txt mt d C i.2.2.1 ls st' H Q) (kf : ¬ c → WP txt mt d C (pc + len) ls st' H Q) : WP txt mt d C pc ls st H Q := by
  by_cases hc : c
  · obtain ⟨r, H2, m, hP, hq⟩ := kt hc
    refine ⟨r, H2, m + 1, ?_, hq⟩
    rw [Path, hC]
    exact Or.inr (Or.inr (Or.inr (Or.inr (Or.inr (Or.inl ⟨c, st', hb, Or.inl ⟨hc, hP⟩⟩)))))
  · obtain ⟨r, H2, m, hP, hq⟩ := kf hc
    refine ⟨r, H2, m + 1, ?_, hq⟩
    rw [Path, hC]
    exact Or.inr (Or.inr (Or.inr (Or.inr (Or.inr (Or.inl ⟨c, st', hb, Or.inr ⟨hc, hP⟩⟩)))))
theorem WP.call {pc : Nat} {ls st rest : List AV} {as : List AV} {H : AH} {m len n : Nat} {x : Int32} {tl : List Nat} (hC : sm_nth C pc = some (some ((110, x, m, n, tl), len))) (hs : st = as.reverse ++ rest) (hn : as.length = n) (hr : rest.length ≤ 8)
    (k : CWP txt mt d m as H (fun r1 H1 => WP txt mt d C (pc + len) ls (r1.toList ++ rest) H1 Q)) : WP txt mt d C pc ls st H Q := by
  obtain ⟨r1, H1, hc, r, H2, m2, hP, hq⟩ := k
  refine ⟨r, H2, m2 + 1, ?_, hq⟩
  rw [Path, hC]
  exact Or.inr (Or.inr (Or.inr (Or.inl ⟨rfl, as, rest, r1, H1, hs, hn, hr, hc, hP⟩)))
theorem WP.sw {pc : Nat} {ls rest : List AV} {H : AH} {x y : Int32} {len n dflt : Nat} {tl : List Nat} (hC : sm_nth C pc = some (some ((120, y, dflt, n, tl), len)))
    (k : WP txt mt d C (if x < 0 then dflt else tl.getD x.toNatClampNeg dflt) ls rest H Q) : WP txt mt d C pc ls (vI x :: rest) H Q := by
  obtain ⟨r, H2, m2, hP, hq⟩ := k
  refine ⟨r, H2, m2 + 1, ?_, hq⟩
  rw [Path, hC]
  exact Or.inr (Or.inr (Or.inr (Or.inr (Or.inl ⟨rfl, x, rest, rfl, hP⟩))))
theorem WP.iret {pc : Nat} {ls : List AV} {H : AH} {x y : Int32} {len t n : Nat} {tl : List Nat} (hC : sm_nth C pc = some (some ((100, y, t, n, tl), len))) (hf : sm_fits t x) (k : Q (some (vI x)) H) : WP txt mt d C pc ls [vI x] H Q := by
  refine ⟨_, _, 1, ?_, k⟩
  rw [Path, hC]
  exact Or.inl ⟨rfl, x, rfl, hf, rfl, rfl⟩
theorem WP.aret {pc : Nat} {ls : List AV} {H : AH} {a : Nat} {y : Int32} {len t n : Nat} {tl : List Nat} (hC : sm_nth C pc = some (some ((101, y, t, n, tl), len))) (k : Q (some (vR a)) H) : WP txt mt d C pc ls [vR a] H Q := by
  refine ⟨_, _, 1, ?_, k⟩
  rw [Path, hC]
  exact Or.inr (Or.inl ⟨rfl, a, rfl, rfl, rfl⟩)
theorem WP.vret {pc : Nat} {ls : List AV} {H : AH} {y : Int32} {len t n : Nat} {tl : List Nat} (hC : sm_nth C pc = some (some ((102, y, t, n, tl), len))) (k : Q none H) : WP txt mt d C pc ls [] H Q := by
  refine ⟨_, _, 1, ?_, k⟩
  rw [Path, hC]
  exact Or.inr (Or.inr (Or.inl ⟨rfl, rfl, rfl, rfl⟩))
theorem WP.mono {pc : Nat} {ls st : List AV} {H : AH} {Q' : Option AV → AH → Prop} (h : WP txt mt d C pc ls st H Q') (hq : ∀ r H', Q' r H' → Q r H') : WP txt mt d C pc ls st H Q := by
  obtain ⟨r, H2, m, hP, q⟩ := h
  exact ⟨r, H2, m, hP, hq _ _ q⟩
theorem CWP.mono {m : Nat} {as : List AV} {H : AH} {Q' : Option AV → AH → Prop} (h : CWP txt mt d m as H Q') (hq : ∀ r H', Q' r H' → Q r H') : CWP txt mt d m as H Q := by
  obtain ⟨r, H2, hP, q⟩ := h
  exact ⟨r, H2, hP, hq _ _ q⟩
/-- a contract out of the walk of the body -/
theorem CWP.of {m : Nat} {as : List AV} {H : AH} (hr : (mt m).2.2 = 0 ∨ ∃ a as', as = vR a :: as' ∧ (kd H a).1 + 1 = 20 + (mt m).2.2)
    (k : WP txt mt d (mt m).1 0 (as ++ List.replicate ((mt m).2.1 - as.length) vU) [] H Q) : CWP txt mt (d + 1) m as H Q := by
  obtain ⟨r, H2, n, hP, q⟩ := k
  exact ⟨r, H2, ⟨hr, n, hP⟩, q⟩
theorem CWP.of2 (hd : 1 ≤ d) {m : Nat} {as : List AV} {H : AH} (hr : (mt m).2.2 = 0 ∨ ∃ a as', as = vR a :: as' ∧ (kd H a).1 + 1 = 20 + (mt m).2.2)
    (k : WP txt mt (d - 1) (mt m).1 0 (as ++ List.replicate ((mt m).2.1 - as.length) vU) [] H Q) : CWP txt mt d m as H Q := by
  obtain ⟨e, rfl⟩ : ∃ e, d = e + 1 := ⟨d - 1, by omega⟩
  exact CWP.of hr k
end SMW
/-! along a path the heap only grows -/
theorem ast_grow {txt : Nat → List Int32} {i : Ins} {len pc pc' : Nat} {ls st ls' st' : List AV} {H H' : AH} {o : Option Prop} (h : ast txt i len pc ls st H = some (o, pc', ls', st', H')) : nx H ≤ nx H' ∧ su H ≤ su H' := by
  unfold ast at h
  split at h <;> first
    | (cases h; done)
    | (simp only [Option.some.injEq, Prod.mk.injEq] at h; obtain ⟨-, -, -, -, rfl⟩ := h; simp only [nx, su, si, sr, al, cp]; omega)
    | (split at h <;> first
        | (cases h; done)
        | (simp only [Option.some.injEq, Prod.mk.injEq] at h; obtain ⟨-, -, -, -, rfl⟩ := h; exact ⟨Nat.le_refl _, Nat.le_refl _⟩))
theorem Path_grow {txt : Nat → List Int32} {P : Nat → List AV → AH → Option AV → AH → Prop} (hP : ∀ m as H r H', P m as H r H' → nx H ≤ nx H' ∧ su H ≤ su H') {C : SC} :
    ∀ (n pc : Nat) (ls st : List AV) (H : AH) (r : Option AV) (H' : AH), Path txt P C n pc ls st H r H' → nx H ≤ nx H' ∧ su H ≤ su H' := by
  intro n
  induction n with
  | zero => intro pc ls st H r H' h; exact h.elim
  | succ n ih =>
    intro pc ls st H r H' h
    simp only [Path] at h
    split at h
    · rcases h with ⟨-, x, -, -, -, rfl⟩ | ⟨-, a, -, -, rfl⟩ | ⟨-, -, -, rfl⟩ | ⟨-, as, rest, r1, H1, -, -, -, hc, hk⟩ | ⟨-, x, rest, -, hk⟩ | ⟨c, st', -, hk⟩ | ⟨o, pc', ls', st', H1, ha, -, hk⟩
      · exact ⟨Nat.le_refl _, Nat.le_refl _⟩
      · exact ⟨Nat.le_refl _, Nat.le_refl _⟩
      · exact ⟨Nat.le_refl _, Nat.le_refl _⟩
      · have h1 := hP _ _ _ _ _ hc
        have h2 := ih _ _ _ _ _ _ hk
        omega
      · exact ih _ _ _ _ _ _ hk
      · rcases hk with ⟨-, hk⟩ | ⟨-, hk⟩ <;> exact ih _ _ _ _ _ _ hk
      · have h1 := ast_grow ha
        have h2 := ih _ _ _ _ _ _ hk
        omega
    · exact h.elim
theorem Call_grow {txt : Nat → List Int32} {mt : Nat → SC × Nat × Nat} : ∀ (d m : Nat) (as : List AV) (H : AH) (r : Option AV) (H' : AH), Call txt mt d m as H r H' → nx H ≤ nx H' ∧ su H ≤ su H' := by
  intro d
  induction d with
  | zero => intro m as H r H' h; exact h.elim
  | succ d ih =>
    intro m as H r H' h
    obtain ⟨-, n, hp⟩ := h
    exact Path_grow ih n _ _ _ _ _ _ hp
/-! a call may be made at any greater depth -/
theorem Path_mono {txt : Nat → List Int32} {P P' : Nat → List AV → AH → Option AV → AH → Prop} (hP : ∀ m as H r H', P m as H r H' → P' m as H r H') {C : SC} :
    ∀ (n pc : Nat) (ls st : List AV) (H : AH) (r : Option AV) (H' : AH), Path txt P C n pc ls st H r H' → Path txt P' C n pc ls st H r H' := by
  intro n
  induction n with
  | zero => intro pc ls st H r H' h; exact h
  | succ n ih =>
    intro pc ls st H r H' h
    rw [Path] at h ⊢
    split at h
    · rename_i i len hC
      try rw [hC]
      rcases h with h | h | h | ⟨e, as, rest, r1, H1, h1, h2, h3, hc, hk⟩ | ⟨e, x, rest, h1, hk⟩ | ⟨c, st', h1, hk⟩ | ⟨o, pc', ls', st', H1, ha, ho, hk⟩
      · exact Or.inl h
      · exact Or.inr (Or.inl h)
      · exact Or.inr (Or.inr (Or.inl h))
      · exact Or.inr (Or.inr (Or.inr (Or.inl ⟨e, as, rest, r1, H1, h1, h2, h3, hP _ _ _ _ _ hc, ih _ _ _ _ _ _ hk⟩)))
      · exact Or.inr (Or.inr (Or.inr (Or.inr (Or.inl ⟨e, x, rest, h1, ih _ _ _ _ _ _ hk⟩))))
      · refine Or.inr (Or.inr (Or.inr (Or.inr (Or.inr (Or.inl ⟨c, st', h1, ?_⟩)))))
        rcases hk with ⟨hc, hk⟩ | ⟨hc, hk⟩
        · exact Or.inl ⟨hc, ih _ _ _ _ _ _ hk⟩
        · exact Or.inr ⟨hc, ih _ _ _ _ _ _ hk⟩
      · exact Or.inr (Or.inr (Or.inr (Or.inr (Or.inr (Or.inr ⟨o, pc', ls', st', H1, ha, ho, ih _ _ _ _ _ _ hk⟩)))))
    · exact h.elim
