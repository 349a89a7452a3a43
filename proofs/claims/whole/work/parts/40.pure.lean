/-! lines and common lines -/
abbrev Ln : Type := List Int32
def lcs : List Ln → List Ln → Nat
  | [], _ => 0
  | _ :: _, [] => 0
  | x :: xs, y :: ys => if x = y then lcs xs ys + 1 else max (lcs xs (y :: ys)) (lcs (x :: xs) ys)
termination_by xs ys => xs.length + ys.length
theorem lcs_n1 (ys : List Ln) : lcs [] ys = 0 := by rw [lcs]
theorem lcs_n2 (xs : List Ln) : lcs xs [] = 0 := by cases xs <;> rw [lcs]
theorem lcs_cc (x y : Ln) (xs ys : List Ln) : lcs (x :: xs) (y :: ys) = if x = y then lcs xs ys + 1 else max (lcs xs (y :: ys)) (lcs (x :: xs) ys) := by rw [lcs]
theorem lcs_step : ∀ (n : Nat) (xs ys : List Ln), xs.length + ys.length ≤ n →
    (∀ y, lcs xs ys ≤ lcs xs (y :: ys) ∧ lcs xs (y :: ys) ≤ lcs xs ys + 1) ∧ (∀ x, lcs xs ys ≤ lcs (x :: xs) ys ∧ lcs (x :: xs) ys ≤ lcs xs ys + 1) := by
  intro n
  induction n with
  | zero =>
    intro xs ys h
    have h1 : xs = [] := List.length_eq_zero_iff.mp (by omega)
    have h2 : ys = [] := List.length_eq_zero_iff.mp (by omega)
    subst h1; subst h2
    simp [lcs_n1, lcs_n2]
  | succ n ih =>
    intro xs ys h
    constructor
    · intro y
      cases xs with
      | nil => simp [lcs_n1]
      | cons x xs =>
        simp only [List.length_cons] at h
        have i1 := ih xs ys (by omega)
        rw [lcs_cc]
        by_cases e : x = y
        · rw [if_pos e]
          have := i1.2 x
          omega
        · rw [if_neg e]
          have a := i1.1 y
          have b := i1.2 x
          omega
    · intro x
      cases ys with
      | nil => simp [lcs_n2]
      | cons y ys =>
        simp only [List.length_cons] at h
        have i1 := ih xs ys (by omega)
        rw [lcs_cc]
        by_cases e : x = y
        · rw [if_pos e]
          have := i1.1 y
          omega
        · rw [if_neg e]
          have a := i1.1 y
          have b := i1.2 x
          omega
theorem lcs_r (xs ys : List Ln) (y : Ln) : lcs xs ys ≤ lcs xs (y :: ys) ∧ lcs xs (y :: ys) ≤ lcs xs ys + 1 := (lcs_step _ xs ys (Nat.le_refl _)).1 y
theorem lcs_d (xs ys : List Ln) (x : Ln) : lcs xs ys ≤ lcs (x :: xs) ys ∧ lcs (x :: xs) ys ≤ lcs xs ys + 1 := (lcs_step _ xs ys (Nat.le_refl _)).2 x
theorem lcs_le (xs ys : List Ln) : lcs xs ys ≤ xs.length := by
  induction xs with
  | nil => simp [lcs_n1]
  | cons x xs ih =>
    have := lcs_d xs ys x
    simp only [List.length_cons]
    omega
/-- the reference's way to say it -/
theorem lcs_ref (x y : Ln) (xs ys : List Ln) : lcs (x :: xs) (y :: ys) = max (max (if x = y then lcs xs ys + 1 else 0) (lcs xs (y :: ys))) (lcs (x :: xs) ys) := by
  rw [lcs_cc]
  have a := lcs_r xs ys y
  have b := lcs_d xs ys x
  by_cases e : x = y
  · rw [if_pos e, if_pos e]; omega
  · rw [if_neg e, if_neg e]; omega
/-- partners of the lines of the first text, from line j of the second on -/
def prt : List Ln → List Ln → Nat → List (Option Nat)
  | [], _, _ => []
  | _ :: xs, [], j => none :: prt xs [] j
  | x :: xs, y :: ys, j => if x = y then some j :: prt xs ys (j + 1)
      else if lcs (x :: xs) ys ≤ lcs xs (y :: ys) then none :: prt xs (y :: ys) j else prt (x :: xs) ys (j + 1)
termination_by xs ys _ => xs.length + ys.length
theorem prt_n (ys : List Ln) (j : Nat) : prt [] ys j = [] := by rw [prt]
theorem prt_c0 (x : Ln) (xs : List Ln) (j : Nat) : prt (x :: xs) [] j = none :: prt xs [] j := by rw [prt]
theorem prt_cc (x y : Ln) (xs ys : List Ln) (j : Nat) : prt (x :: xs) (y :: ys) j = if x = y then some j :: prt xs ys (j + 1)
    else if lcs (x :: xs) ys ≤ lcs xs (y :: ys) then none :: prt xs (y :: ys) j else prt (x :: xs) ys (j + 1) := by rw [prt]
theorem prt_len : ∀ (n : Nat) (xs ys : List Ln) (j : Nat), xs.length + ys.length ≤ n → (prt xs ys j).length = xs.length := by
  intro n
  induction n with
  | zero =>
    intro xs ys j h
    have h1 : xs = [] := List.length_eq_zero_iff.mp (by omega)
    subst h1
    simp [prt_n]
  | succ n ih =>
    intro xs ys j h
    cases xs with
    | nil => simp [prt_n]
    | cons x xs =>
      simp only [List.length_cons] at h
      cases ys with
      | nil => rw [prt_c0]; simp only [List.length_cons]; rw [ih xs [] j (by simp only [List.length_nil] at h ⊢; omega)]
      | cons y ys =>
        simp only [List.length_cons] at h
        rw [prt_cc]
        split
        · simp only [List.length_cons]; rw [ih xs ys (j + 1) (by omega)]
        · split
          · simp only [List.length_cons]; rw [ih xs (y :: ys) j (by simp only [List.length_cons]; omega)]
          · rw [ih (x :: xs) ys (j + 1) (by simp only [List.length_cons]; omega)]
/-- partners are places of the second text, growing; the lines there are equal -/
theorem prt_ok : ∀ (n : Nat) (xs ys : List Ln) (j : Nat), xs.length + ys.length ≤ n → ∀ (i k : Nat), (prt xs ys j)[i]? = some (some k) →
    j ≤ k ∧ k < j + ys.length ∧ xs[i]? = ys[k - j]? ∧ ∀ (i2 k2 : Nat), i < i2 → (prt xs ys j)[i2]? = some (some k2) → k < k2 := by
  intro n
  induction n with
  | zero =>
    intro xs ys j h i k hk
    have h1 : xs = [] := List.length_eq_zero_iff.mp (by omega)
    subst h1
    simp [prt_n] at hk
  | succ n ih =>
    intro xs ys j h i k hk
    cases xs with
    | nil => simp [prt_n] at hk
    | cons x xs =>
      simp only [List.length_cons] at h
      cases ys with
      | nil =>
        rw [prt_c0] at hk ⊢
        cases i with
        | zero => simp at hk
        | succ i =>
          rw [List.getElem?_cons_succ] at hk
          obtain ⟨a1, a2, a3, a4⟩ := ih xs [] j (by simp only [List.length_nil] at h ⊢; omega) i k hk
          simp only [List.length_nil] at a2
          omega
      | cons y ys =>
        simp only [List.length_cons] at h
        rw [prt_cc] at hk ⊢
        split at hk
        · rename_i e
          rw [if_pos e]
          cases i with
          | zero =>
            simp only [List.getElem?_cons_zero, Option.some.injEq] at hk
            subst hk
            refine ⟨Nat.le_refl _, by simp only [List.length_cons]; omega, by simp [e], fun i2 k2 h2 hk2 => ?_⟩
            cases i2 with
            | zero => omega
            | succ i2 =>
              rw [List.getElem?_cons_succ] at hk2
              have := (ih xs ys (j + 1) (by omega) i2 k2 hk2).1
              omega
          | succ i =>
            rw [List.getElem?_cons_succ] at hk
            obtain ⟨a1, a2, a3, a4⟩ := ih xs ys (j + 1) (by omega) i k hk
            refine ⟨by omega, by simp only [List.length_cons]; omega, ?_, fun i2 k2 h2 hk2 => ?_⟩
            · rw [List.getElem?_cons_succ, a3, show k - j = (k - (j + 1)) + 1 by omega, List.getElem?_cons_succ]
            · cases i2 with
              | zero => omega
              | succ i2 =>
                rw [List.getElem?_cons_succ] at hk2
                exact a4 i2 k2 (by omega) hk2
        · rename_i e
          rw [if_neg e]
          split at hk
          · rename_i e2
            rw [if_pos e2]
            cases i with
            | zero => simp at hk
            | succ i =>
              rw [List.getElem?_cons_succ] at hk
              obtain ⟨a1, a2, a3, a4⟩ := ih xs (y :: ys) j (by simp only [List.length_cons]; omega) i k hk
              refine ⟨a1, a2, by rw [List.getElem?_cons_succ]; exact a3, fun i2 k2 h2 hk2 => ?_⟩
              cases i2 with
              | zero => omega
              | succ i2 =>
                rw [List.getElem?_cons_succ] at hk2
                exact a4 i2 k2 (by omega) hk2
          · rename_i e2
            rw [if_neg e2]
            obtain ⟨a1, a2, a3, a4⟩ := ih (x :: xs) ys (j + 1) (by simp only [List.length_cons]; omega) i k hk
            refine ⟨by omega, by simp only [List.length_cons]; omega, ?_, a4⟩
            rw [a3, show k - j = (k - (j + 1)) + 1 by omega, List.getElem?_cons_succ]
/-! lines of a text (f, n) by places -/
def cnt (f : Nat → Int32) : Nat → Nat
  | 0 => 0
  | k + 1 => cnt f k + (if f k = 10 then 1 else 0)
theorem cnt_s (f : Nat → Int32) (k : Nat) : cnt f (k + 1) = cnt f k + (if f k = 10 then 1 else 0) := rfl
theorem cnt_s10 {f : Nat → Int32} {k : Nat} (h : f k = 10) : cnt f (k + 1) = cnt f k + 1 := by rw [cnt_s, if_pos h]
theorem cnt_sn {f : Nat → Int32} {k : Nat} (h : ¬ f k = 10) : cnt f (k + 1) = cnt f k := by rw [cnt_s, if_neg h]; rfl
theorem cnt_mono {f : Nat → Int32} {k m : Nat} (h : k ≤ m) : cnt f k ≤ cnt f m := by
  induction m with
  | zero => have : k = 0 := by omega
            subst this; exact Nat.le_refl _
  | succ m ih =>
    by_cases e : k = m + 1
    · subst e; exact Nat.le_refl _
    · have := ih (by omega)
      rw [cnt_s]
      omega
theorem cnt_le (f : Nat → Int32) (k : Nat) : cnt f k ≤ k := by
  induction k with
  | zero => exact Nat.le_refl _
  | succ k ih => rw [cnt_s]; split <;> omega
theorem cnt_congr {f g : Nat → Int32} {n : Nat} (h : ∀ j, j < n → f j = g j) : ∀ k, k ≤ n → cnt f k = cnt g k := by
  intro k
  induction k with
  | zero => intro _; rfl
  | succ k ih => intro hk; rw [cnt_s, cnt_s, ih (by omega), h k (by omega)]
/-- the least place from k on (m places at most) with i line ends before it -/
def lsa (f : Nat → Int32) (i : Nat) : Nat → Nat → Nat
  | 0, k => k
  | m + 1, k => if cnt f k = i then k else lsa f i m (k + 1)
def lst0 (f : Nat → Int32) (n i : Nat) : Nat := lsa f i n 0
theorem lsa_spec (f : Nat → Int32) (i : Nat) : ∀ (m k : Nat), (∀ j, j < k → cnt f j < i) → cnt f k ≤ i → i ≤ cnt f (k + m) →
    k ≤ lsa f i m k ∧ lsa f i m k ≤ k + m ∧ cnt f (lsa f i m k) = i ∧ ∀ j, j < lsa f i m k → cnt f j < i := by
  intro m
  induction m with
  | zero => intro k h1 h2 h3; exact ⟨Nat.le_refl _, Nat.le_refl _, Nat.le_antisymm h2 h3, h1⟩
  | succ m ih =>
    intro k h1 h2 h3
    simp only [lsa]
    split
    · rename_i e; exact ⟨Nat.le_refl _, by omega, e, h1⟩
    · rename_i e
      have hlt : cnt f k < i := by omega
      have hs : cnt f (k + 1) ≤ i := by rw [cnt_s]; split <;> omega
      have := ih (k + 1) (fun j hj => by
        by_cases ej : j = k
        · subst ej; exact hlt
        · exact h1 j (by omega)) hs (by rw [show k + 1 + m = k + (m + 1) by omega]; exact h3)
      exact ⟨by omega, by omega, this.2.2.1, this.2.2.2⟩
theorem ls_spec {f : Nat → Int32} {n i : Nat} (h : i ≤ cnt f n) : lst0 f n i ≤ n ∧ cnt f (lst0 f n i) = i ∧ ∀ j, j < lst0 f n i → cnt f j < i := by
  have := lsa_spec f i n 0 (fun j hj => by omega) (Nat.zero_le _) (by rw [Nat.zero_add]; exact h)
  rw [Nat.zero_add] at this
  exact ⟨this.2.1, this.2.2⟩
theorem ls_uniq {f : Nat → Int32} {n i k : Nat} (hk : k ≤ n) (hc : cnt f k = i) (h : ∀ j, j < k → cnt f j < i) : lst0 f n i = k := by
  obtain ⟨h1, h2, h3⟩ := ls_spec (f := f) (n := n) (i := i) (by rw [← hc]; exact cnt_mono hk)
  rcases Nat.lt_trichotomy (lst0 f n i) k with q | q | q
  · have := h _ q; omega
  · exact q
  · have := h3 _ q; omega
theorem ls_0 (f : Nat → Int32) (n : Nat) : lst0 f n 0 = 0 := ls_uniq (Nat.zero_le _) rfl (fun j hj => by omega)
/-- behind a line end begins the next line -/
theorem ls_next {f : Nat → Int32} {n k : Nat} (hk : k < n) (h : f k = 10) : lst0 f n (cnt f k + 1) = k + 1 :=
  ls_uniq (by omega) (cnt_s10 h) (fun j hj => by have := cnt_mono (f := f) (show j ≤ k by omega); omega)
theorem ls_prev {f : Nat → Int32} {n i : Nat} (h : i + 1 ≤ cnt f n) : 0 < lst0 f n (i + 1) ∧ f (lst0 f n (i + 1) - 1) = 10 ∧ cnt f (lst0 f n (i + 1) - 1) = i := by
  obtain ⟨h1, h2, h3⟩ := ls_spec h
  have hp : 0 < lst0 f n (i + 1) := by
    rcases Nat.eq_zero_or_pos (lst0 f n (i + 1)) with q | q
    · rw [q] at h2; simp [cnt] at h2
    · exact q
  have h4 := h3 (lst0 f n (i + 1) - 1) (by omega)
  have h5 : cnt f (lst0 f n (i + 1) - 1 + 1) = i + 1 := by rw [show lst0 f n (i + 1) - 1 + 1 = lst0 f n (i + 1) by omega]; exact h2
  rw [cnt_s] at h5
  refine ⟨hp, ?_, ?_⟩
  · split at h5
    · assumption
    · omega
  · split at h5 <;> omega
theorem ls_lt {f : Nat → Int32} {n i j : Nat} (hij : i < j) (hj : j ≤ cnt f n) : lst0 f n i < lst0 f n j := by
  obtain ⟨a1, a2, a3⟩ := ls_spec (f := f) (n := n) (i := i) (by omega)
  obtain ⟨b1, b2, b3⟩ := ls_spec hj
  rcases Nat.lt_or_ge (lst0 f n i) (lst0 f n j) with q | q
  · exact q
  · have := cnt_mono (f := f) q; omega
/-- the end of a line: the place of its line end, or n -/
def lend (f : Nat → Int32) (n i : Nat) : Nat := if i < cnt f n then lst0 f n (i + 1) - 1 else n
theorem le_spec {f : Nat → Int32} {n i : Nat} (h : i ≤ cnt f n) : lst0 f n i ≤ lend f n i ∧ lend f n i ≤ n ∧ (∀ k, lst0 f n i ≤ k → k < lend f n i → ¬ f k = 10) ∧ (i < cnt f n → lend f n i < n ∧ f (lend f n i) = 10 ∧ lst0 f n (i + 1) = lend f n i + 1) ∧ (i = cnt f n → lend f n i = n) := by
  obtain ⟨a1, a2, a3⟩ := ls_spec h
  unfold lend
  by_cases hi : i < cnt f n
  · rw [if_pos hi]
    obtain ⟨b1, b2, b3⟩ := ls_spec (f := f) (n := n) (i := i + 1) hi
    obtain ⟨c1, c2, c3⟩ := ls_prev (f := f) (n := n) (i := i) hi
    have hl := ls_lt (f := f) (n := n) (i := i) (j := i + 1) (by omega) hi
    refine ⟨by omega, by omega, fun k h1 h2 e => ?_, fun _ => ⟨by omega, c2, by omega⟩, fun e => by omega⟩
    have h3 := cnt_s10 e
    have h4 := cnt_mono (f := f) h1
    have h5 := cnt_mono (f := f) (show k + 1 ≤ lst0 f n (i + 1) - 1 by omega)
    omega
  · rw [if_neg hi]
    refine ⟨a1, Nat.le_refl _, fun k h1 h2 e => ?_, fun q => absurd q hi, fun _ => rfl⟩
    have h3 := cnt_s10 e
    have h4 := cnt_mono (f := f) h1
    have h5 := cnt_mono (f := f) (show k + 1 ≤ n by omega)
    omega
/-- line i as a list -/
def lnx (f : Nat → Int32) (n i : Nat) : Ln := (List.range (lend f n i - lst0 f n i)).map (fun k => f (lst0 f n i + k))
def lnsx (f : Nat → Int32) (n : Nat) : List Ln := (List.range (cnt f n + 1)).map (lnx f n)
theorem lnsx_len (f : Nat → Int32) (n : Nat) : (lnsx f n).length = cnt f n + 1 := by simp [lnsx]
theorem lnsx_get {f : Nat → Int32} {n i : Nat} (h : i < cnt f n + 1) : (lnsx f n)[i]? = some (lnx f n i) := by simp [lnsx, h]
theorem lnx_len (f : Nat → Int32) (n i : Nat) : (lnx f n i).length = lend f n i - lst0 f n i := by simp [lnx]
theorem lnx_get {f : Nat → Int32} {n i k : Nat} (h : k < lend f n i - lst0 f n i) : (lnx f n i)[k]? = some (f (lst0 f n i + k)) := by simp [lnx, h]
theorem lnx_eq {f g : Nat → Int32} {n m i j : Nat} : lnx f n i = lnx g m j ↔ (lend f n i - lst0 f n i = lend g m j - lst0 g m j ∧ ∀ k, k < lend f n i - lst0 f n i → f (lst0 f n i + k) = g (lst0 g m j + k)) := by
  constructor
  · intro e
    have h1 : lend f n i - lst0 f n i = lend g m j - lst0 g m j := by rw [← lnx_len, ← lnx_len, e]
    refine ⟨h1, fun k hk => ?_⟩
    have h2 := lnx_get hk
    rw [e, lnx_get (by omega)] at h2
    exact (Option.some.inj h2).symm
  · rintro ⟨h1, h2⟩
    refine List.ext_getElem? fun k => ?_
    by_cases hk : k < lend f n i - lst0 f n i
    · rw [lnx_get hk, lnx_get (by omega), h2 k hk]
    · rw [List.getElem?_eq_none (by rw [lnx_len]; omega), List.getElem?_eq_none (by rw [lnx_len]; omega)]
/-! what the document says, as functions of lists -/
abbrev Tx : Type := List Int32
def tf (l : Tx) (j : Nat) : Int32 := l.getD j 0
def nLn (l : Tx) : Nat := cnt (tf l) l.length + 1
def sLn (l : Tx) (i : Nat) : Nat := lst0 (tf l) l.length i
def eLn (l : Tx) (i : Nat) : Nat := lend (tf l) l.length i
def LN (l : Tx) : List Ln := lnsx (tf l) l.length
theorem LN_len (l : Tx) : (LN l).length = nLn l := lnsx_len _ _
theorem LN_get {l : Tx} {i : Nat} (h : i < nLn l) : (LN l)[i]? = some (lnx (tf l) l.length i) := lnsx_get h
/-- lines from j to before p: characters and line ends -/
def lsp (Y : List Ln) (j p : Nat) : Nat := (((Y.drop j).take (p - j)).map (fun l => l.length + 1)).sum
theorem lsp_0 (Y : List Ln) (j : Nat) : lsp Y j j = 0 := by simp [lsp]
theorem lsp_s {Y : List Ln} {j p : Nat} {l : Ln} (h : j ≤ p) (hl : Y[p]? = some l) : lsp Y j (p + 1) = lsp Y j p + (l.length + 1) := by
  unfold lsp
  rw [show p + 1 - j = (p - j) + 1 by omega, List.take_add_one]
  have : (Y.drop j)[p - j]? = some l := by rw [List.getElem?_drop, show j + (p - j) = p by omega]; exact hl
  rw [this]
  simp
theorem sum_take_le : ∀ (l : List Nat) (n : Nat), (l.take n).sum ≤ l.sum := by
  intro l
  induction l with
  | nil => intro n; simp
  | cons a l ih =>
    intro n
    cases n with
    | zero => simp
    | succ n => simp only [List.take_succ_cons, List.sum_cons]; have := ih n; omega
theorem sum_drop_le : ∀ (l : List Nat) (n : Nat), (l.drop n).sum ≤ l.sum := by
  intro l
  induction l with
  | nil => intro n; simp
  | cons a l ih =>
    intro n
    cases n with
    | zero => simp
    | succ n => simp only [List.drop_succ_cons, List.sum_cons]; have := ih n; omega
def lall (Y : List Ln) : Nat := (Y.map (fun l => l.length + 1)).sum
theorem lsp_le (Y : List Ln) (j p : Nat) : lsp Y j p ≤ lall Y := by
  unfold lsp lall
  rw [List.map_take, List.map_drop]
  exact Nat.le_trans (sum_take_le _ _) (sum_drop_le _ _)
/-- the size of a delta by its partners: gap: lines of the elder text since the last common one; j: the next line of the younger -/
def dl (Y : List Ln) : List (Option Nat) → Bool → Nat → Nat
  | [], gap, j => if gap = true ∨ j < Y.length then 3 + lsp Y j Y.length else 0
  | none :: ps, _, j => dl Y ps true j
  | some p :: ps, gap, j => (if gap = true ∨ j < p then 3 + lsp Y j p else 0) + dl Y ps false (p + 1)
theorem dl_le (Y : List Ln) : ∀ (ps : List (Option Nat)) (gap : Bool) (j : Nat), dl Y ps gap j ≤ (3 + lall Y) * (ps.length + 1) := by
  intro ps
  induction ps with
  | nil =>
    intro gap j
    simp only [dl, List.length_nil]
    have := lsp_le Y j Y.length
    split <;> omega
  | cons q ps ih =>
    intro gap j
    cases q with
    | none =>
      simp only [dl, List.length_cons]
      have := ih true j
      have h2 : (3 + lall Y) * (ps.length + 1 + 1) = (3 + lall Y) * (ps.length + 1) + (3 + lall Y) := by rw [Nat.mul_add (3 + lall Y) (ps.length + 1) 1, Nat.mul_one]
      omega
    | some p =>
      simp only [dl, List.length_cons]
      have := ih false (p + 1)
      have h1 := lsp_le Y j p
      have h2 : (3 + lall Y) * (ps.length + 1 + 1) = (3 + lall Y) * (ps.length + 1) + (3 + lall Y) := by rw [Nat.mul_add (3 + lall Y) (ps.length + 1) 1, Nat.mul_one]
      split <;> omega
def dsz (A B : Tx) : Nat := dl (LN B) (prt (LN A) (LN B) 0) false 0
/-- lines a to before b -/
def sub (X : List Ln) (a b : Nat) : List Ln := (X.drop a).take (b - a)
def rgn (O A B : List Ln) (o o' a a' b b' : Nat) : Option (List Ln) :=
  if sub A a a' = sub O o o' then some (sub B b b') else if sub B b b' = sub O o o' ∨ sub A a a' = sub B b b' then some (sub A a a') else none
/-- merging, from line k of O on: ps the partners from there on; o, a, b where the part begins -/
def mg (O A B : List Ln) : List (Option Nat × Option Nat) → Nat → Nat → Nat → Nat → Option (List Ln)
  | [], _, o, a, b => rgn O A B o O.length a A.length b B.length
  | q :: r, k, o, a, b => match q with
    | (some pa, some pb) => match rgn O A B o k a pa b pb with
      | none => none
      | some out => match mg O A B r (k + 1) (k + 1) (pa + 1) (pb + 1) with
        | none => none
        | some out2 => some (out ++ O.getD k [] :: out2)
    | _ => mg O A B r (k + 1) o a b
/-- lines put out one behind the other; b: one has been put out -/
def em : Bool → List Ln → Tx
  | _, [] => []
  | b, x :: r => (if b = true then [10] else []) ++ x ++ em true r
def mrg (O A B : Tx) : Option Tx := (mg (LN O) (LN A) (LN B) ((prt (LN O) (LN A) 0).zip (prt (LN O) (LN B) 0)) 0 0 0 0).map (em false)
/-! looking at lines -/
def ch (l : Ln) (k : Nat) : Int32 := l.getD k 0
abbrev two (l : Ln) (k : Nat) (c : Int32) : Prop := k + 1 < l.length ∧ ch l k = c ∧ ch l (k + 1) = c
abbrev ltr (c : Int32) : Prop := 65 ≤ c ∧ c ≤ 90
abbrev lkd (l : Ln) (k : Nat) : Prop := k + 4 < l.length ∧ ch l k = 91 ∧ ch l (k + 1) = 91 ∧ ltr (ch l (k + 2)) ∧ ch l (k + 3) = 93 ∧ ch l (k + 4) = 93
abbrev inc (l : Ln) : Prop := (l.length = 5 ∨ l.length = 6) ∧ ch l 0 = 123 ∧ ch l 1 = 123 ∧ ltr (ch l 2) ∧ ch l (l.length - 2) = 125 ∧ ch l (l.length - 1) = 125
def fil (c : Int32) (l : Ln) : Ln := l.map (fun d => if d = 36 then c else d)
def esc (c : Int32) : Tx := if c = 38 then [38, 97, 109, 112, 59] else if c = 60 then [38, 108, 116, 59] else if c = 62 then [38, 103, 116, 59] else [c]
/-- content from k on (n: fuel) -/
def ctk (th : Int32 → Bool) (l : Ln) : Nat → Nat → Bool → Tx
  | 0, _, _ => []
  | n + 1, k, b => if l.length ≤ k then (if b = true then [60, 47, 98, 62] else [])
    else if two l k 42 then (if b = true then [60, 47, 98, 62] else [60, 98, 62]) ++ ctk th l n (k + 2) (!b)
    else if lkd l k then (if th (ch l (k + 2)) = true then [60, 97, 62, ch l (k + 2), 60, 47, 97, 62] else [60, 117, 62, ch l (k + 2), 60, 47, 117, 62]) ++ ctk th l n (k + 5) b
    else esc (ch l k) ++ ctk th l n (k + 1) b
/-! common lines by places -/
theorem drop_c {X : List Ln} {i : Nat} (h : i < X.length) : X.drop i = X.getD i [] :: X.drop (i + 1) := by
  rw [List.drop_eq_getElem_cons h, List.getD_eq_getElem?_getD, List.getElem?_eq_getElem h]
  rfl
theorem drop_n {X : List Ln} {i : Nat} (h : X.length ≤ i) : X.drop i = [] := List.drop_eq_nil_of_le h
def lc (X Y : List Ln) (i j : Nat) : Nat := lcs (X.drop i) (Y.drop j)
theorem lc_n1 {X Y : List Ln} {i j : Nat} (h : X.length ≤ i) : lc X Y i j = 0 := by unfold lc; rw [drop_n h, lcs_n1]
theorem lc_n2 {X Y : List Ln} {i j : Nat} (h : Y.length ≤ j) : lc X Y i j = 0 := by unfold lc; rw [drop_n h, lcs_n2]
theorem lc_eq {X Y : List Ln} {i j : Nat} (hi : i < X.length) (hj : j < Y.length) (h : X.getD i [] = Y.getD j []) : lc X Y i j = lc X Y (i + 1) (j + 1) + 1 := by
  unfold lc; rw [drop_c hi, drop_c hj, lcs_cc, if_pos h]
theorem lc_ne {X Y : List Ln} {i j : Nat} (hi : i < X.length) (hj : j < Y.length) (h : ¬ X.getD i [] = Y.getD j []) : lc X Y i j = max (lc X Y (i + 1) j) (lc X Y i (j + 1)) := by
  unfold lc; rw [drop_c hi, drop_c hj, lcs_cc, if_neg h]
theorem lc_ref {X Y : List Ln} {i j : Nat} (hi : i < X.length) (hj : j < Y.length) : lc X Y i j = max (max (if X.getD i [] = Y.getD j [] then lc X Y (i + 1) (j + 1) + 1 else 0) (lc X Y (i + 1) j)) (lc X Y i (j + 1)) := by
  unfold lc
  have h := lcs_ref (X.getD i []) (Y.getD j []) (X.drop (i + 1)) (Y.drop (j + 1))
  rw [← drop_c hi, ← drop_c hj] at h
  exact h
theorem lc_le (X Y : List Ln) (i j : Nat) : lc X Y i j ≤ X.length := by
  unfold lc
  have := lcs_le (X.drop i) (Y.drop j)
  rw [List.length_drop] at this
  omega
def pr (X Y : List Ln) (i j : Nat) : List (Option Nat) := prt (X.drop i) (Y.drop j) j
theorem pr_nil {X Y : List Ln} {i j : Nat} (h : X.length ≤ i) : pr X Y i j = [] := by unfold pr; rw [drop_n h, prt_n]
theorem pr_end {X Y : List Ln} {i j : Nat} (hi : i < X.length) (hj : Y.length ≤ j) : pr X Y i j = none :: pr X Y (i + 1) j := by unfold pr; rw [drop_c hi, drop_n hj, prt_c0]
theorem pr_eq {X Y : List Ln} {i j : Nat} (hi : i < X.length) (hj : j < Y.length) (h : X.getD i [] = Y.getD j []) : pr X Y i j = some j :: pr X Y (i + 1) (j + 1) := by
  unfold pr; rw [drop_c hi, drop_c hj, prt_cc, if_pos h]
theorem pr_none {X Y : List Ln} {i j : Nat} (hi : i < X.length) (hj : j < Y.length) (h : ¬ X.getD i [] = Y.getD j []) (h2 : lc X Y i (j + 1) ≤ lc X Y (i + 1) j) : pr X Y i j = none :: pr X Y (i + 1) j := by
  unfold pr lc at *
  rw [drop_c hi, drop_c hj, prt_cc, if_neg h, ← drop_c hi, ← drop_c hj, if_pos h2]
theorem pr_skip {X Y : List Ln} {i j : Nat} (hi : i < X.length) (hj : j < Y.length) (h : ¬ X.getD i [] = Y.getD j []) (h2 : ¬ lc X Y i (j + 1) ≤ lc X Y (i + 1) j) : pr X Y i j = pr X Y i (j + 1) := by
  unfold pr lc at *
  rw [drop_c hi, drop_c hj, prt_cc, if_neg h, ← drop_c hi, ← drop_c hj, if_neg h2]
theorem pr_len (X Y : List Ln) (i j : Nat) : (pr X Y i j).length = X.length - i := by
  unfold pr
  rw [prt_len _ _ _ _ (Nat.le_refl _), List.length_drop]
/-- the partner of line i: its number, or -1 -/
def ptr (ps : List (Option Nat)) (i : Nat) : Int32 := match ps[i]? with
  | some (some k) => nI k
  | _ => -1
def PR (X Y : List Ln) : List (Option Nat) := pr X Y 0 0
theorem PR_len (X Y : List Ln) : (PR X Y).length = X.length := by unfold PR; rw [pr_len]; omega
theorem PR_ok {X Y : List Ln} {i k : Nat} (h : (PR X Y)[i]? = some (some k)) : k < Y.length ∧ X.getD i [] = Y.getD k [] ∧ ∀ (i2 k2 : Nat), i < i2 → (PR X Y)[i2]? = some (some k2) → k < k2 := by
  unfold PR pr at *
  obtain ⟨a1, a2, a3, a4⟩ := prt_ok _ _ _ _ (Nat.le_refl _) i k h
  simp only [List.drop_zero] at a2 a3 a4
  refine ⟨by omega, ?_, fun i2 k2 h1 h2 => a4 i2 k2 h1 (by simpa using h2)⟩
  rw [List.getD_eq_getElem?_getD, List.getD_eq_getElem?_getD, a3]
  rfl
theorem lk_one (X Y : List Ln) (i j : Nat) (ps : List (Option Nat)) (h : PR X Y = ps ++ pr X Y i j) (hp : ps.length = i) : ∀ q r, pr X Y i j = q :: r → (PR X Y)[i]? = some q := by
  intro q r e
  rw [h, List.getElem?_append_right (by omega), hp, Nat.sub_self, e]
  rfl
/-! sizes and merging by places -/
theorem drop_q {α : Type} {ps : List α} {k : Nat} {q : α} (h : ps[k]? = some q) : ps.drop k = q :: ps.drop (k + 1) := by
  obtain ⟨h1, h2⟩ := List.getElem?_eq_some_iff.mp h
  rw [List.drop_eq_getElem_cons h1, h2]
theorem dl_none {Y : List Ln} {ps : List (Option Nat)} {k j : Nat} {gap : Bool} (h : ps[k]? = some none) : dl Y (ps.drop k) gap j = dl Y (ps.drop (k + 1)) true j := by
  rw [drop_q h, dl]
theorem dl_some {Y : List Ln} {ps : List (Option Nat)} {k j p : Nat} {gap : Bool} (h : ps[k]? = some (some p)) : dl Y (ps.drop k) gap j = (if gap = true ∨ j < p then 3 + lsp Y j p else 0) + dl Y (ps.drop (k + 1)) false (p + 1) := by
  rw [drop_q h, dl]
theorem dl_nil {Y : List Ln} {ps : List (Option Nat)} {k j : Nat} {gap : Bool} (h : ps.length ≤ k) : dl Y (ps.drop k) gap j = if gap = true ∨ j < Y.length then 3 + lsp Y j Y.length else 0 := by
  rw [List.drop_eq_nil_of_le h, dl]
theorem ptr_none {ps : List (Option Nat)} {i : Nat} (h : ps[i]? = some none) : ptr ps i = -1 := by unfold ptr; rw [h]
theorem ptr_some {ps : List (Option Nat)} {i k : Nat} (h : ps[i]? = some (some k)) : ptr ps i = nI k := by unfold ptr; rw [h]
theorem ps_get {ps : List (Option Nat)} {i : Nat} (h : i < ps.length) : ps[i]? = some none ∨ ∃ k, ps[i]? = some (some k) := by
  rw [List.getElem?_eq_getElem h]
  cases ps[i] with
  | none => exact Or.inl rfl
  | some k => exact Or.inr ⟨k, rfl⟩
/-- both partners -/
theorem mg_both {O A B : List Ln} {ps : List (Option Nat × Option Nat)} {k o a b pa pb : Nat} (h : ps[k]? = some (some pa, some pb)) : mg O A B (ps.drop k) k o a b = match rgn O A B o k a pa b pb with
      | none => none
      | some out => match mg O A B (ps.drop (k + 1)) (k + 1) (k + 1) (pa + 1) (pb + 1) with
        | none => none
        | some out2 => some (out ++ O.getD k [] :: out2) := by
  rw [drop_q h, mg]
theorem mg_not {O A B : List Ln} {ps : List (Option Nat × Option Nat)} {k o a b : Nat} {q : Option Nat × Option Nat} (h : ps[k]? = some q) (hq : q.1 = none ∨ q.2 = none) : mg O A B (ps.drop k) k o a b = mg O A B (ps.drop (k + 1)) (k + 1) o a b := by
  rw [drop_q h]
  obtain ⟨x, y⟩ := q
  rcases hq with h1 | h1
  · simp only at h1
    subst h1
    rw [mg]
    intro pa pb e; cases e
  · simp only at h1
    subst h1
    cases x <;> (rw [mg]; intro pa pb e; cases e)
theorem mg_end {O A B : List Ln} {ps : List (Option Nat × Option Nat)} {k k' o a b : Nat} (h : ps.length ≤ k) : mg O A B (ps.drop k) k' o a b = rgn O A B o O.length a A.length b B.length := by
  rw [List.drop_eq_nil_of_le h, mg]
theorem em_app : ∀ (X Y : List Ln) (b : Bool), em b (X ++ Y) = em b X ++ em (b || !X.isEmpty) Y := by
  intro X
  induction X with
  | nil => intro Y b; simp [em]
  | cons x X ih =>
    intro Y b
    simp only [List.cons_append, em, ih]
    simp [List.append_assoc]
