/-! the reference: revisions -/
/-- page, gone, text -/
abbrev Rv : Type := Nat × Bool × Tx
def pg (R : List Rv) (p : Nat) : List (Bool × Tx) := (R.filter (fun r => r.1 == p)).map (fun r => r.2)
def pgk (R : List Rv) (p k : Nat) : List (Bool × Tx) := pg (R.take k) p
theorem pg_app (A B : List Rv) (p : Nat) : pg (A ++ B) p = pg A p ++ pg B p := by simp [pg]
theorem pg_one (r : Rv) (p : Nat) : pg [r] p = if r.1 = p then [r.2] else [] := by
  by_cases h : r.1 = p <;> simp [pg, h]
theorem pgk_0 (R : List Rv) (p : Nat) : pgk R p 0 = [] := by simp [pgk, pg]
theorem pgk_s {R : List Rv} {p k : Nat} {r : Rv} (h : R[k]? = some r) : pgk R p (k + 1) = pgk R p k ++ (if r.1 = p then [r.2] else []) := by
  unfold pgk
  rw [List.take_add_one, h, Option.toList_some, pg_app, pg_one]
theorem pgk_all (R : List Rv) (p : Nat) : pgk R p R.length = pg R p := by unfold pgk; rw [List.take_length]
theorem pgk_pre (R : List Rv) (p k : Nat) : pg R p = pgk R p k ++ pg (R.drop k) p := by
  unfold pgk
  rw [← pg_app, List.take_append_drop]
theorem pgk_le (R : List Rv) (p k : Nat) : (pgk R p k).length ≤ k := by
  unfold pgk pg
  rw [List.length_map]
  exact Nat.le_trans (List.length_filter_le _ _) (by rw [List.length_take]; omega)
theorem pg_le (R : List Rv) (p : Nat) : (pg R p).length ≤ R.length := by rw [← pgk_all]; exact pgk_le R p R.length
def zB (b : Bool) : Int32 := if b = true then 1 else 0
theorem zB_0 {b : Bool} : zB b = 0 ↔ b = false := by cases b <;> decide
def RRv (g : Nat → Nat → Int32) (R : List Rv) : Prop :=
  R.length ≤ 24 ∧ g 58 2 = nI R.length ∧ ∀ k r, R[k]? = some r → g 61 k = nI r.1 ∧ g 62 k = zB r.2.1 ∧ SL g (nI k) r.2.2 ∧ r.1 < 6
theorem RRv.fr {g g' : Nat → Nat → Int32} {R : List Rv} (h : RRv g R) (h1 : g' 59 = g 59) (h2 : g' 60 = g 60) (h3 : g' 61 = g 61) (h4 : g' 62 = g 62) (h5 : g' 58 2 = g 58 2) : RRv g' R :=
  ⟨h.1, by rw [h5]; exact h.2.1, fun k r hr => by
    obtain ⟨a, b, c, e⟩ := h.2.2 k r hr
    exact ⟨by rw [h3]; exact a, by rw [h4]; exact b, c.fr h1 h2, e⟩⟩
/-- what find answers -/
def FN (R : List Rv) (p v : Nat) (r : Int32) : Prop := (∃ k e, r = nI k ∧ R[k]? = some (p, e) ∧ 1 ≤ v ∧ (pg R p)[v - 1]? = some e) ∨ (r = -1 ∧ (v = 0 ∨ (pg R p).length < v))
section MODE
variable {d : Nat} {Q : Option AV → AH → Prop} {H : AH} {g : Nat → Nat → Int32} {x y : Int32} {l l2 : Tx} {R : List Rv} {p v : Nat}
theorem l_count (hF : Fix H) (h : RRv g R) (hp : p < 6) (k : Q (some (vI (nI (pg R p).length))) (wi H g)) : ∀ (m i : Nat), i + m = R.length → wp d sc_Model_count 4 [vR 58, vI (nI p), vI (nI (pgk R p i).length), vI (nI i)] [] (wi H g) Q := by
  obtain ⟨h1, h2, h3⟩ := h
  intro m
  induction m with
  | zero =>
    intro i hi
    have e : i = R.length := by omega
    refine f_Model_count_4 hF (fun q => absurd (by rw [h2]; exact nI_le (by omega) (by omega)) q) (fun _ => ?_) (fun q => absurd (by rw [h2]; exact nI_le (by omega) (by omega)) q) (fun q => absurd (by rw [h2]; exact nI_le (by omega) (by omega)) q)
    rw [e, pgk_all]
    exact k
  | succ m ih =>
    intro i hi
    have hlt : i < R.length := by omega
    obtain ⟨a1, a2, a3, a4⟩ := h3 i R[i] (List.getElem?_eq_getElem hlt)
    have hs := pgk_s (p := p) (List.getElem?_eq_getElem hlt)
    have hc : (nI i).toNatClampNeg = i := nI_clamp (by omega)
    refine f_Model_count_4 hF (fun _ => vp_in_nI (by omega) (by decide)) (fun q => absurd q (by rw [h2]; exact nI_ge hlt (by omega))) (fun _ q => ?_) (fun _ q => ?_)
    · rw [hc, a1, nI_eq (by omega) (by omega)] at q
      rw [if_neg q, List.append_nil] at hs
      rw [nI_1, ← hs]
      exact ih (i + 1) (by omega)
    · rw [hc, a1, nI_eq (by omega) (by omega)] at q
      rw [if_pos q] at hs
      rw [nI_1, nI_1, show (pgk R p i).length + 1 = (pgk R p (i + 1)).length by rw [hs]; simp]
      exact ih (i + 1) (by omega)
theorem c_count (hd : 1 ≤ d) (hF : Fix H) (h : RRv g R) (hp : p < 6) (k : Q (some (vI (nI (pg R p).length))) (wi H g)) : cwp d 128 [vR 58, vI (nI p)] (wi H g) Q := by
  refine e_Model_count hd (hF.c 58 31 rfl) (f_Model_count_0 hF ?_)
  have := l_count (d := d - 1) hF h hp k R.length 0 (by omega)
  rw [pgk_0] at this
  exact this
theorem l_find (hF : Fix H) (h : RRv g R) (hp : p < 6) (hv : v < 2 ^ 31) (k : ∀ r, FN R p v r → Q (some (vI r)) (wi H g)) : ∀ (m i : Nat), i + m = R.length → (v = 0 ∨ (pgk R p i).length < v) → wp d sc_Model_find 5 [vR 58, vI (nI p), vI (nI v), vI (nI (pgk R p i).length), vI (nI i)] [] (wi H g) Q := by
  obtain ⟨h1, h2, h3⟩ := h
  intro m
  induction m with
  | zero =>
    intro i hi hl
    have e : i = R.length := by omega
    refine f_Model_find_5 hF (fun q => absurd (by rw [h2]; exact nI_le (by omega) (by omega)) q) (fun _ => k _ (Or.inr ⟨rfl, ?_⟩)) (fun q => absurd (by rw [h2]; exact nI_le (by omega) (by omega)) q) (fun q => absurd (by rw [h2]; exact nI_le (by omega) (by omega)) q) (fun q => absurd (by rw [h2]; exact nI_le (by omega) (by omega)) q)
    rw [e, pgk_all] at hl
    exact hl
  | succ m ih =>
    intro i hi hl
    have hlt : i < R.length := by omega
    obtain ⟨a1, a2, a3, a4⟩ := h3 i R[i] (List.getElem?_eq_getElem hlt)
    have hs := pgk_s (p := p) (List.getElem?_eq_getElem hlt)
    have hle := pgk_le R p i
    have hc : (nI i).toNatClampNeg = i := nI_clamp (by omega)
    refine f_Model_find_5 hF (fun _ => vp_in_nI (by omega) (by decide)) (fun q => absurd q (by rw [h2]; exact nI_ge hlt (by omega))) (fun _ q => ?_) (fun _ q q2 => ?_) (fun _ q q2 => ?_)
    · rw [hc, a1, nI_eq (by omega) (by omega)] at q
      rw [if_neg q, List.append_nil] at hs
      rw [nI_1, ← hs]
      exact ih (i + 1) (by omega) (by rw [hs]; exact hl)
    · rw [hc, a1, nI_eq (by omega) (by omega)] at q
      rw [nI_1, nI_eq (by omega) hv] at q2
      rw [if_pos q] at hs
      have hl2 : (pgk R p (i + 1)).length = (pgk R p i).length + 1 := by rw [hs]; simp
      rw [nI_1, nI_1, ← hl2]
      exact ih (i + 1) (by omega) (by omega)
    · rw [hc, a1, nI_eq (by omega) (by omega)] at q
      rw [nI_1, nI_eq (by omega) hv] at q2
      rw [if_pos q] at hs
      refine k _ (Or.inl ⟨i, R[i].2, rfl, ?_, by omega, ?_⟩)
      · rw [List.getElem?_eq_getElem hlt, ← q]
      · rw [pgk_pre R p (i + 1), hs, List.append_assoc, List.getElem?_append_right (by omega), show v - 1 - (pgk R p i).length = 0 by omega]
        rfl
theorem c_find (hd : 1 ≤ d) (hF : Fix H) (h : RRv g R) (hp : p < 6) (hv : v < 2 ^ 31) (k : ∀ r, FN R p v r → Q (some (vI r)) (wi H g)) : cwp d 129 [vR 58, vI (nI p), vI (nI v)] (wi H g) Q := by
  refine e_Model_find hd (hF.c 58 31 rfl) (f_Model_find_0 hF ?_)
  have := l_find (d := d - 1) hF h hp hv k R.length 0 (by omega) (by rw [pgk_0]; simp only [List.length_nil]; omega)
  rw [pgk_0] at this
  exact this
/-- is the page there -/
def thr (R : List Rv) (p : Nat) : Prop := ∃ e, (pg R p).getLast? = some e ∧ e.1 = false
theorem c_isPage (hd : 1 ≤ d) (k1 : ∀ p : Nat, p < 6 → x = nI p → Q (some (vI 1)) H) (k0 : (∀ p : Nat, p < 6 → x ≠ nI p) → Q (some (vI 0)) H) : cwp d 127 [vI x] H Q := by
  refine e_Model_isPage hd (t_Model_isPage_0 (fun h => k0 (fun p hp e => ?_)) (fun h1 h2 => k0 (fun p hp e => ?_)) (fun h1 h2 => ?_))
  · rw [e] at h; exact absurd h (nI_pos (by omega))
  · rw [e] at h2
    exact absurd h2 (by rw [show (5 : Int32) = nI 5 from rfl]; exact nI_nlt (by omega) (by decide))
  · obtain ⟨j, hj, rfl⟩ := nI_of h1
    refine k1 j ?_ rfl
    rw [show (5 : Int32) = nI 5 from rfl, nI_ltI (by decide) hj] at h2
    omega
theorem getLast_eq {α : Type} (l : List α) : l.getLast? = l[l.length - 1]? := List.getLast?_eq_getElem?
theorem c_isThere (hd : 2 ≤ d) (hF : Fix H) (h : RRv g R) (k : ∀ r, bI (∃ p : Nat, p < 6 ∧ x = nI p ∧ thr R p) r → Q (some (vI r)) (wi H g)) : cwp d 130 [vR 58, vI x] (wi H g) Q := by
  refine e_Model_isThere (by omega) (hF.c 58 31 rfl) (f_Model_isThere_0 hF (c_isPage (by omega) (fun p hp e => ?_) (fun hno => ?_)))
  · subst e
    have hle := pg_le R p
    have h24 := h.1
    refine f_Model_isThere_4 hF (fun q => absurd q (by decide)) (fun _ => c_count (by omega) hF h hp ?_)
    refine f_Model_isThere_14 hF (c_find (by omega) hF h hp (by omega) (fun r hr => ?_))
    rcases hr with ⟨i, e, rfl, h1, h2, h3⟩ | ⟨rfl, hr⟩
    · have hi : i < R.length := (List.getElem?_eq_some_iff.mp h1).1
      obtain ⟨a1, a2, a3, a4⟩ := h.2.2 i _ h1
      have hc : (nI i).toNatClampNeg = i := nI_clamp (by omega)
      refine f_Model_isThere_17 hF (fun _ => vp_in_nI (by omega) (by decide)) (fun q => absurd q (nI_pos (by omega))) (fun _ q => k _ (Or.inr ⟨?_, rfl⟩)) (fun _ q => k _ (Or.inl ⟨?_, rfl⟩))
      · rw [hc, a2, zB_0] at q
        rintro ⟨p2, hp2, e2, e3, h4, h5⟩
        have : p = p2 := (nI_eq (by omega) (by omega)).mp e2
        subst this
        rw [getLast_eq, h3] at h4
        cases h4
        exact q h5
      · rw [hc, a2, zB_0] at q
        exact ⟨p, hp, rfl, e, by rw [getLast_eq]; exact h3, q⟩
    · refine f_Model_isThere_17 hF (fun q => absurd (by decide) q) (fun _ => k _ (Or.inr ⟨?_, rfl⟩)) (fun q => absurd (by decide) q) (fun q => absurd (by decide) q)
      rintro ⟨p2, hp2, e2, e3, h4, h5⟩
      have : p = p2 := (nI_eq (by omega) (by omega)).mp e2
      subst this
      have : pg R p = [] := List.length_eq_zero_iff.mp (by omega)
      rw [this] at h4
      cases h4
  · refine f_Model_isThere_4 hF (fun _ => k _ (Or.inr ⟨?_, rfl⟩)) (fun q => absurd rfl q)
    rintro ⟨p2, hp2, e2, -⟩
    exact hno p2 hp2 e2
end MODE
