/-! the reference: common lines -/
theorem LN_getD {l : Tx} {i : Nat} (h : i < nLn l) : (LN l).getD i [] = lnx (tf l) l.length i := by
  rw [List.getD_eq_getElem?_getD, LN_get h]; rfl
theorem sub_len {X : List Ln} {a b : Nat} (h : b ≤ X.length) : (sub X a b).length = b - a := by
  unfold sub
  rw [List.length_take, List.length_drop]
  omega
theorem sub_get {X : List Ln} {a b k : Nat} (h : k < b - a) (hb : b ≤ X.length) : (sub X a b)[k]? = some (X.getD (a + k) []) := by
  unfold sub
  rw [List.getElem?_take, if_pos h, List.getElem?_drop, List.getD_eq_getElem?_getD, List.getElem?_eq_getElem (by omega)]
  rfl
theorem sub_eq {X Y : List Ln} {i i2 j j2 : Nat} (h1 : i2 ≤ X.length) (h2 : j2 ≤ Y.length) : sub X i i2 = sub Y j j2 ↔ (i2 - i = j2 - j ∧ ∀ k, k < i2 - i → X.getD (i + k) [] = Y.getD (j + k) []) := by
  constructor
  · intro e
    have hl : i2 - i = j2 - j := by rw [← sub_len (a := i) h1, ← sub_len (a := j) h2, e]
    refine ⟨hl, fun k hk => ?_⟩
    have := sub_get hk h1
    rw [e, sub_get (by omega) h2] at this
    exact (Option.some.inj this).symm
  · rintro ⟨hl, h⟩
    refine List.ext_getElem? fun k => ?_
    by_cases hk : k < i2 - i
    · rw [sub_get hk h1, sub_get (by omega) h2, h k hk]
    · rw [List.getElem?_eq_none (by rw [sub_len h1]; omega), List.getElem?_eq_none (by rw [sub_len h2]; omega)]
theorem SL.fr {g g' : Nat → Nat → Int32} {x : Int32} {l : Tx} (h : SL g x l) (h1 : g' 59 = g 59) (h2 : g' 60 = g 60) : SL g' x l := by
  unfold SL
  rw [h1, h2]
  exact h
theorem nI_sub1 (k : Nat) : nI (k + 1) - 1 = nI k := nI_pred k
def dn (k : Nat) : Int32 := nI k + (-1)
theorem dn_0 : dn 0 < 0 := by decide
theorem dn_s (k : Nat) : dn (k + 1) = nI k := by
  unfold dn
  rw [← nI_1, Int32.add_assoc, show (1 : Int32) + (-1) = 0 from rfl, Int32.add_zero]
section MODB
variable {d : Nat} {Q : Option AV → AH → Prop} {H : AH} {g : Nat → Nat → Int32} {x y : Int32} {l l2 : Tx}
theorem l_alike {i i2 j j2 : Nat} (hd : 4 ≤ d) (hF : Fix H) (h : SL g x l) (h2 : SL g y l2) (hi : i ≤ i2) (hi2 : i2 ≤ nLn l) (hj : j ≤ j2) (hj2 : j2 ≤ nLn l2) (hl : i2 - i = j2 - j) (k : ∀ r, bI (sub (LN l) i i2 = sub (LN l2) j j2) r → Q (some (vI r)) (wi H g)) :
    ∀ (m q : Nat), q + m = i2 - i → (∀ z, z < q → (LN l).getD (i + z) [] = (LN l2).getD (j + z) []) → wp d sc_Model_alike 16 [vR 58, vI x, vI (nI i), vI (nI i2), vI y, vI (nI j), vI (nI j2), vI (nI q)] [] (wi H g) Q := by
  have hle := h.le
  have hle2 := h2.le
  have hn := nLn_le l
  have hn2 := nLn_le l2
  intro m
  induction m with
  | zero =>
    intro q hq hz
    refine f_Model_alike_16 hF (fun _ => k _ (Or.inl ⟨?_, rfl⟩)) (fun z => absurd (by rw [nI_sub hi]; exact nI_le (by omega) (by omega)) z)
    exact (sub_eq (by rw [LN_len]; exact hi2) (by rw [LN_len]; exact hj2)).mpr ⟨hl, fun z hz2 => hz z (by omega)⟩
  | succ m ih =>
    intro q hq hz
    refine f_Model_alike_16 hF (fun z => absurd z (by rw [nI_sub hi]; exact nI_ge (by omega) (by omega))) (fun _ => ?_)
    rw [nI_add, nI_add]
    refine c_equal hd hF h h2 (by omega) (by omega) (fun r hr => ?_)
    refine f_Model_alike_40 hF (fun hr0 => ?_) (fun hr0 => ?_)
    · rw [nI_1]
      refine ih (q + 1) (by omega) (fun z hz2 => ?_)
      by_cases e : z = q
      · subst e
        rcases hr with ⟨hr, -⟩ | ⟨-, hr⟩
        · rw [LN_getD (by omega), LN_getD (by omega)]; exact hr
        · exact absurd hr hr0
      · exact hz z (by omega)
    · refine k _ (Or.inr ⟨fun e => ?_, rfl⟩)
      rcases hr with ⟨-, hr⟩ | ⟨hr, -⟩
      · rw [hr] at hr0; exact absurd hr0 (by decide)
      · have := ((sub_eq (by rw [LN_len]; exact hi2) (by rw [LN_len]; exact hj2)).mp e).2 q (by omega)
        rw [LN_getD (by omega), LN_getD (by omega)] at this
        exact hr this
theorem c_alike {i i2 j j2 : Nat} (hd : 5 ≤ d) (hF : Fix H) (h : SL g x l) (h2 : SL g y l2) (hi : i ≤ i2) (hi2 : i2 ≤ nLn l) (hj : j ≤ j2) (hj2 : j2 ≤ nLn l2) (k : ∀ r, bI (sub (LN l) i i2 = sub (LN l2) j j2) r → Q (some (vI r)) (wi H g)) :
    cwp d 124 [vR 58, vI x, vI (nI i), vI (nI i2), vI y, vI (nI j), vI (nI j2)] (wi H g) Q := by
  have hle := h.le
  have hle2 := h2.le
  have hn := nLn_le l
  have hn2 := nLn_le l2
  refine e_Model_alike (by omega) (hF.c 58 31 rfl) (f_Model_alike_0 hF (fun q => ?_) (fun q => k _ (Or.inr ⟨fun e => q ?_, rfl⟩)))
  · rw [nI_sub hi, nI_sub hj] at q
    have hl := (nI_eq (by omega) (by omega)).mp q
    exact l_alike (by omega) hF h h2 hi hi2 hj hj2 hl k (i2 - i) 0 (by omega) (fun z hz => by omega)
  · rw [nI_sub hi, nI_sub hj, ((sub_eq (by rw [LN_len]; exact hi2) (by rw [LN_len]; exact hj2)).mp e).1]
theorem c_note {i : Nat} {v f : Int32} (hd : 1 ≤ d) (hF : Fix H) (hi : i < 42) (k : Q none (wi H (sm_u2 g (if f = 0 then 65 else 64) i v))) : cwp d 126 [vR 58, vI (nI i), vI v, vI f] (wi H g) Q := by
  have hc : (nI i).toNatClampNeg = i := nI_clamp (by omega)
  refine e_Model_note hd (hF.c 58 31 rfl) (f_Model_note_0 hF (fun _ => vp_in_nI hi (by decide)) (fun _ => vp_in_nI hi (by decide)) (fun h => ?_) (fun h => ?_))
  · rw [hc]; rw [if_pos h] at k; exact k
  · rw [hc]; rw [if_neg h] at k; exact k
/-- the table below row i is full, and of row i from column j on -/
def TBL (X Y : List Ln) (g : Nat → Nat → Int32) (i j : Nat) : Prop :=
  (∀ i2 j2, i < i2 → i2 ≤ X.length → j2 ≤ Y.length → g 63 (42 * i2 + j2) = nI (lc X Y i2 j2)) ∧ ∀ j2, j ≤ j2 → j2 ≤ Y.length → g 63 (42 * i + j2) = nI (lc X Y i j2)
theorem nI_42 (s k : Nat) : (42 : Int32) * nI s + nI k = nI (42 * s + k) := by
  rw [show (42 : Int32) = nI 42 from rfl, nI_mul, nI_add]
theorem TBL.set {X Y : List Ln} {i j : Nat} (h : TBL X Y g i (j + 1)) (hj : j ≤ Y.length) (hY : Y.length ≤ 41) : TBL X Y (sm_u2 g 63 (42 * i + j) (nI (lc X Y i j))) i j := by
  refine ⟨fun i2 j2 h1 h2 h3 => ?_, fun j2 h1 h2 => ?_⟩
  · rw [u2_ne (Or.inr (by omega))]
    exact h.1 i2 j2 h1 h2 h3
  · by_cases e : j2 = j
    · subst e; rw [u2_self]
    · rw [u2_ne (Or.inr (by omega))]
      exact h.2 j2 (by omega) h2
end MODB
