/-! the reference: the draft's calls -/
/-- what drop leaves: from a to before b is taken out -/
def cutl (l : Tx) (a b : Nat) : Tx := l.take a ++ l.drop b
theorem cutl_len {l : Tx} {a b : Nat} (h : a ≤ b) (hb : b ≤ l.length) : (cutl l a b).length = l.length - (b - a) := by
  unfold cutl
  rw [List.length_append, List.length_take, List.length_drop]
  omega
theorem cutl_tf {l : Tx} {a b : Nat} (h : a ≤ b) (hb : b ≤ l.length) (j : Nat) : tf (cutl l a b) j = if j < a then tf l j else tf l (j + (b - a)) := by
  unfold cutl tf
  simp only [List.getD_eq_getElem?_getD]
  by_cases h1 : j < a
  · rw [if_pos h1, List.getElem?_append_left (by rw [List.length_take]; omega), List.getElem?_take, if_pos h1]
  · rw [if_neg h1, List.getElem?_append_right (by rw [List.length_take]; omega), List.length_take, show min a l.length = a by omega, List.getElem?_drop, show b + (j - a) = j + (b - a) by omega]
/-- the places that drop takes out -/
def dpA (l : Tx) (i : Nat) : Nat := if i + 1 < nLn l then sLn l i else if 0 < i then sLn l i - 1 else sLn l i
def dpB (l : Tx) (i : Nat) : Nat := if i + 1 < nLn l then eLn l i + 1 else eLn l i
theorem dp_ok {l : Tx} {i : Nat} (h : i < nLn l) : dpA l i ≤ dpB l i ∧ dpB l i ≤ l.length := by
  obtain ⟨e1, e2, e3, e4, e5⟩ := eLn_spec h
  unfold dpA dpB
  have hc : cnt (tf l) l.length + 1 = nLn l := rfl
  by_cases h1 : i + 1 < nLn l
  · rw [if_pos h1, if_pos h1]
    have := e4 (by omega)
    omega
  · rw [if_neg h1, if_neg h1]
    split <;> omega
section MODH
variable {d : Nat} {Q : Option AV → AH → Prop} {H : AH} {g : Nat → Nat → Int32} {x y : Int32} {l l2 : Tx} {R : List Rv} {p v K n : Nat}
theorem lm_drop {a b : Nat} (hF : Fix H) (hab : a ≤ b) (hb : b ≤ l.length) (hl : l.length ≤ 40) (k : ∀ g', Oth g g' 24 → ST g' 24 (cutl l a b) → Q (some (vI 1)) (wi H g')) :
    ∀ (m i : Nat) (g1 : Nat → Nat → Int32), i + m = l.length → b ≤ i → Oth g g1 24 → g1 60 24 = nI l.length → (∀ j, j < a + (i - b) → g1 59 (960 + j) = tf (cutl l a b) j) → (∀ j, i ≤ j → j < l.length → g1 59 (960 + j) = tf l j) →
    wp d sc_Model_drop 60 [vR 58, vI x, vI (nI a), vI (nI b), vI (nI i)] [] (wi H g1) Q := by
  have e9 : ∀ j : Nat, (960 : Int32) + nI j = nI (960 + j) := fun j => nI_add 960 j
  intro m
  induction m with
  | zero =>
    intro i g1 hi hbi ho h60 hlo hhi
    have z : g1 60 24 ≤ nI i := by rw [h60]; exact nI_le (by omega) (by omega)
    refine f_Model_drop_60 hF (fun q => absurd z q) (fun q => absurd z q) (fun _ => ?_) (fun q => absurd z q)
    rw [h60, nI_sub hab, nI_sub (by omega)]
    refine k _ (ho.trans Oth.t60) ⟨?_, ?_, fun j hj => ?_⟩
    · rw [u2_self, cutl_len hab hb]
    · rw [cutl_len hab hb]; omega
    · rw [cutl_len hab hb] at hj
      rw [u2_ne (Or.inl (by decide)), show 40 * 24 + j = 960 + j by omega]
      exact hlo j (by omega)
  | succ m ih =>
    intro i g1 hi hbi ho h60 hlo hhi
    have z : ¬ g1 60 24 ≤ nI i := by rw [h60]; exact nI_ge (by omega) (by omega)
    have e8 : (960 : Int32) + nI a + nI i - nI b = nI (960 + (a + (i - b))) := by rw [e9, nI_add, nI_sub (by omega)]; congr 1; omega
    refine f_Model_drop_60 hF (fun _ => by rw [e9]; exact vp_in_nI (by omega) (by decide)) (fun _ => by rw [e8]; exact vp_in_nI (by omega) (by decide)) (fun q => absurd q z) (fun _ => ?_)
    rw [e8, e9, nI_clamp (by omega), nI_clamp (by omega), hhi i (Nat.le_refl _) (by omega), nI_1]
    refine ih (i + 1) _ (by omega) (by omega) (ho.trans (Oth.t59 (by omega) (by omega))) ?_ (fun j hj => ?_) (fun j h1 h2 => ?_)
    · rw [u2_ne (Or.inl (by decide))]; exact h60
    · by_cases e : j = a + (i - b)
      · subst e
        rw [u2_self, cutl_tf hab hb, if_neg (by omega)]
        congr 1
        omega
      · rw [u2_ne (Or.inr (by omega))]; exact hlo j (by omega)
    · rw [u2_ne (Or.inr (by omega))]; exact hhi j (by omega) h2
theorem c_drop (hd : 4 ≤ d) (hF : Fix H) (h : ST g 24 l) (kn : (∀ i, i < nLn l → x ≠ nI i) → Q (some (vI 0)) (wi H g))
    (k : ∀ i, i < nLn l → x = nI i → ∀ g', Oth g g' 24 → ST g' 24 (cutl l (dpA l i) (dpB l i)) → Q (some (vI 1)) (wi H g')) : cwp d 149 [vR 58, vI x] (wi H g) Q := by
  have hs := h.sl (by decide)
  have hle := h.2.1
  have hn := nLn_le l
  refine e_Model_drop (by omega) (hF.c 58 31 rfl) (f_Model_drop_0 hF (fun z => kn (fun i hi e => ?_)) (fun z => c_lines (x := nI 24) (by omega) hF hs ?_))
  · rw [e] at z; exact absurd z (nI_pos (by omega))
  · obtain ⟨i, hi, rfl⟩ := nI_of z
    refine f_Model_drop_11 hF (fun q => ?_) (fun q => kn (fun j hj e => q ?_))
    · rw [nI_ltI hi (by omega)] at q
      obtain ⟨e1, e2, e3, e4, e5⟩ := eLn_spec q
      have hc : cnt (tf l) l.length + 1 = nLn l := rfl
      have hdp := dp_ok q
      have fin : wp (d - 1) sc_Model_drop 60 [vR 58, vI (nI i), vI (nI (dpA l i)), vI (nI (dpB l i)), vI (nI (dpB l i))] [] (wi H g) Q :=
        lm_drop hF hdp.1 hdp.2 hle (k i q rfl) (l.length - dpB l i) (dpB l i) g (by omega) (Nat.le_refl _) Oth.rf h.1 (fun j hj => by
          rw [cutl_tf hdp.1 hdp.2, if_pos (by omega)]
          have := h.2.2 j (by omega)
          exact this) (fun j _ hj => by have := h.2.2 j hj; exact this)
      refine c_start (x := nI 24) (by omega) hF hs q ?_
      refine f_Model_drop_23 hF (c_stop (x := nI 24) (by omega) hF hs q ?_)
      refine f_Model_drop_31 hF (c_lines (x := nI 24) (by omega) hF hs ?_)
      have en : nI (nLn l) - 1 = nI (nLn l - 1) := by
        have := nI_sub1 (nLn l - 1)
        rw [show nLn l - 1 + 1 = nLn l by omega] at this
        exact this
      refine f_Model_drop_39 hF (fun z1 z2 => ?_) (fun z1 z2 => ?_) (fun z1 => ?_)
      · rw [en, nI_leI (by omega) (by omega)] at z1
        have hi0 : i = 0 := by
          rcases Nat.eq_zero_or_pos i with e | e
          · exact e
          · exact absurd z2 (nI_nle e hi)
        unfold dpA dpB at fin
        rw [if_neg (by omega), if_neg (by omega), if_neg (by omega)] at fin
        exact fin
      · rw [en, nI_leI (by omega) (by omega)] at z1
        have hi0 : 0 < i := by
          rcases Nat.eq_zero_or_pos i with e | e
          · subst e; exact absurd (by decide) z2
          · exact e
        have hs0 : 0 < sLn l i := by
          have := ls_lt (f := tf l) (n := l.length) (i := 0) (j := i) hi0 (by omega)
          unfold sLn
          omega
        unfold dpA dpB at fin
        rw [if_neg (by omega), if_pos hi0, if_neg (by omega)] at fin
        have : nI (sLn l i) + (-1) = nI (sLn l i - 1) := by
          have := dn_s (sLn l i - 1)
          rw [show sLn l i - 1 + 1 = sLn l i by omega] at this
          exact this
        rw [this]
        exact fin
      · rw [en, nI_leI (by omega) (by omega)] at z1
        unfold dpA dpB at fin
        rw [if_pos (by omega), if_pos (by omega)] at fin
        rw [nI_1]
        exact fin
    · rw [e]; exact nI_lt hj (by omega)
/-- printed characters -/
abbrev prn (c : Int32) : Prop := 32 ≤ c ∧ c ≤ 126
theorem c_type (hd : 2 ≤ d) (hF : Fix H) (h : ST g 24 l) (kn : ¬ ((prn x ∨ x = 10) ∧ l.length < 40) → Q (some (vI 0)) (wi H g))
    (k : (prn x ∨ x = 10) → l.length < 40 → ∀ g', Oth g g' 24 → ST g' 24 (l ++ [x]) → Q (some (vI 1)) (wi H g')) : cwp d 147 [vR 58, vI x] (wi H g) Q := by
  have hle := h.2.1
  have eins : ins l l.length x = l ++ [x] := by unfold ins; simp
  have go : (prn x ∨ x = 10) → cwp (d - 1) 146 [vR 58, vI (g 60 24), vI x] (wi H g) (fun r1 H1 => wp (d - 1) sc_Model_type 30 [vR 58, vI x] (r1.toList ++ []) H1 Q) := by
    intro hx
    rw [h.1]
    refine c_insert (by omega) hF h (Nat.le_refl _) (fun h40 => ?_) (fun h40 g' ho hst => ?_)
    · exact f_Model_type_30 hF (fun _ => kn (fun z => by omega)) (fun q => absurd rfl q)
    · rw [eins] at hst
      exact f_Model_type_30 hF (fun q => absurd q (by decide)) (fun _ => k hx h40 g' ho hst)
  refine e_Model_type (by omega) (hF.c 58 31 rfl) (f_Model_type_0 hF (fun q1 q2 => kn (fun z => ?_)) (fun q1 q2 => go (Or.inr q2)) (fun q1 q2 => go (Or.inl ⟨Int32.not_lt.mp q1, q2⟩)) (fun q1 q2 q3 => kn (fun z => ?_)) (fun q1 q2 q3 => go (Or.inr q3)))
  · rcases z.1 with ⟨h1, h2⟩ | h1
    · exact absurd q1 (Int32.not_lt.mpr h1)
    · exact q2 h1
  · rcases z.1 with ⟨h1, h2⟩ | h1
    · exact q2 h2
    · exact q3 h1
theorem c_put {c : Int32} (hd : 4 ≤ d) (hF : Fix H) (h : ST g 24 l) (kn : (∀ i, i < nLn l → x = nI i → prn c → 40 ≤ l.length) → Q (some (vI 0)) (wi H g))
    (k : ∀ i, i < nLn l → x = nI i → prn c → l.length < 40 → ∀ g', Oth g g' 24 → ST g' 24 (ins l (eLn l i) c) → Q (some (vI 1)) (wi H g')) : cwp d 148 [vR 58, vI x, vI c] (wi H g) Q := by
  have hs := h.sl (by decide)
  have hle := h.2.1
  have hn := nLn_le l
  refine e_Model_put (by omega) (hF.c 58 31 rfl) (f_Model_put_0 hF (fun z => kn (fun i hi e => ?_)) (fun z => c_lines (x := nI 24) (by omega) hF hs ?_))
  · rw [e] at z; exact absurd z (nI_pos (by omega))
  · obtain ⟨i, hi, rfl⟩ := nI_of z
    refine f_Model_put_11 hF (fun q => kn (fun j hj e _ => ?_)) (fun q q2 => kn (fun j hj e hc => ?_)) (fun q q2 q3 => ?_) (fun q q2 q3 => kn (fun j hj e hc => ?_))
    · rw [e] at q; exact absurd q (nI_ge hj (by omega))
    · exact absurd q2 (Int32.not_lt.mpr hc.1)
    · have hil : i < nLn l := by
        rcases Nat.lt_or_ge i (nLn l) with w | w
        · exact w
        · exact absurd (nI_le w hi) q
      obtain ⟨e1, e2, -⟩ := eLn_spec hil
      refine c_stop (x := nI 24) (by omega) hF hs hil ?_
      refine f_Model_put_35 hF (c_insert (by omega) hF h e2 (fun h40 => ?_) (fun h40 g' ho hst => ?_))
      · exact f_Model_put_42 hF (Or.inl rfl) (kn (fun _ _ _ _ => h40))
      · exact f_Model_put_42 hF (Or.inr rfl) (k i hil rfl ⟨Int32.not_lt.mp q2, q3⟩ h40 g' ho hst)
    · exact absurd hc.2 q3
theorem c_clear (hd : 1 ≤ d) (hF : Fix H) (k : ∀ g', Oth g g' 24 → ST g' 24 [] → Q none (wi H g')) : cwp d 150 [vR 58] (wi H g) Q := by
  refine e_Model_clear hd (hF.c 58 31 rfl) (f_Model_clear_0 hF (k _ Oth.t60 ⟨by rw [u2_self]; rfl, Nat.zero_le _, fun j hj => by simp at hj⟩))
theorem c_at (hd : 1 ≤ d) (hF : Fix H) (h : ST g 24 l) (kn : (∀ j, j < l.length → x ≠ nI j) → Q (some (vI (-1))) (wi H g)) (k : ∀ j, j < l.length → x = nI j → Q (some (vI (tf l j))) (wi H g)) : cwp d 152 [vR 58, vI x] (wi H g) Q := by
  obtain ⟨h1, h2, h3⟩ := h
  refine e_Model_at hd (hF.c 58 31 rfl) (f_Model_at_0 hF (fun z q => ?_) (fun z => kn (fun j hj e => ?_)) (fun z q => ?_) (fun z q => kn (fun j hj e => q ?_)))
  · obtain ⟨j, hj, rfl⟩ := nI_of z
    rw [h1, nI_ltI hj (by omega)] at q
    rw [show (960 : Int32) + nI j = nI (960 + j) from nI_add 960 j]
    exact vp_in_nI (by omega) (by decide)
  · rw [e] at z; exact absurd z (nI_pos (by omega))
  · obtain ⟨j, hj, rfl⟩ := nI_of z
    rw [h1, nI_ltI hj (by omega)] at q
    rw [show (960 : Int32) + nI j = nI (960 + j) from nI_add 960 j, nI_clamp (by omega)]
    have := h3 j q
    rw [show 40 * 24 + j = 960 + j by omega] at this
    rw [this]
    exact k j q rfl
  · rw [e, h1]; exact nI_lt hj (by omega)
end MODH
