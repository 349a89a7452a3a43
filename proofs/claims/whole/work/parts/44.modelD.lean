/-! the reference: match, its second half -/
section MODD
variable {d : Nat} {Q : Option AV → AH → Prop} {H : AH} {g : Nat → Nat → Int32} {x y f : Int32} {l l2 : Tx}
def wW (f : Int32) : Nat := if f = 0 then 65 else 64
theorem wW_or (f : Int32) : wW f = 65 ∨ wW f = 64 := by unfold wW; split; exact Or.inl rfl; exact Or.inr rfl
theorem l_notes (hd : 1 ≤ d) (hF : Fix H) (hn : nLn l ≤ 41)
    (K : ∀ (g' : Nat → Nat → Int32) (v : AV), (∀ i, i < nLn l → g' (wW f) i = -1) → (∀ a, a ≠ wW f → g' a = g a) → wp d sc_Model_match 228 [vR 58, vI x, vI y, vI f, vI (nI (nLn l)), vI (nI (nLn l2)), vI 0, vI 0, v] [] (wi H g') Q) :
    ∀ (m i : Nat), i + m = nLn l → ∀ (g1 : Nat → Nat → Int32) (u v : AV), (∀ i2, i2 < i → g1 (wW f) i2 = -1) → (∀ a, a ≠ wW f → g1 a = g a) → wp d sc_Model_match 201 [vR 58, vI x, vI y, vI f, vI (nI (nLn l)), vI (nI (nLn l2)), vI (nI i), u, v] [] (wi H g1) Q := by
  intro m
  induction m with
  | zero =>
    intro i hi g1 u v h1 h2
    exact f_Model_match_201 hF (fun _ => K g1 v (fun i2 hi2 => h1 i2 (by omega)) h2) (fun q => absurd (nI_le (by omega) (by omega)) q)
  | succ m ih =>
    intro i hi g1 u v h1 h2
    refine f_Model_match_201 hF (fun q => absurd q (nI_ge (by omega) (by omega))) (fun _ => ?_)
    refine c_note hd hF (by omega) ?_
    refine f_Model_match_216 hF ?_
    rw [nI_1]
    refine ih (i + 1) (by omega) _ u v (fun i2 hi2 => ?_) (fun a ha => ?_)
    · show sm_u2 g1 (wW f) i (-1) (wW f) i2 = -1
      by_cases e : i2 = i
      · subst e; rw [u2_self]
      · rw [u2_ne (Or.inr e)]; exact h1 i2 (by omega)
    · show sm_u2 g1 (wW f) i (-1) a = g a
      rw [u2_na ha]; exact h2 a ha
theorem l_walk (hd : 4 ≤ d) (hF : Fix H) (h : SL g x l) (h2 : SL g y l2) (ht : TBA (LN l) (LN l2) g)
    (K : ∀ (g' : Nat → Nat → Int32), (∀ i, i < nLn l → g' (wW f) i = ptr (PR (LN l) (LN l2)) i) → (∀ a, a ≠ wW f → g' a = g a) → Q none (wi H g')) :
    ∀ (m i j : Nat), (nLn l - i) + (nLn l2 - j) ≤ m → i ≤ nLn l → j ≤ nLn l2 → ∀ (g1 : Nat → Nat → Int32) (v : AV), (PR (LN l) (LN l2)).drop i = pr (LN l) (LN l2) i j → (∀ i2, i2 < i → g1 (wW f) i2 = ptr (PR (LN l) (LN l2)) i2) → (∀ i2, i ≤ i2 → i2 < nLn l → g1 (wW f) i2 = -1) → (∀ a, a ≠ wW f → g1 a = g a) →
    wp d sc_Model_match 228 [vR 58, vI x, vI y, vI f, vI (nI (nLn l)), vI (nI (nLn l2)), vI (nI i), vI (nI j), v] [] (wi H g1) Q := by
  have hle := h.le
  have hle2 := h2.le
  have hn := nLn_le l
  have hn2 := nLn_le l2
  have LX := LN_len l
  have LY := LN_len l2
  have lb := lc_le (LN l) (LN l2)
  have hw : wW f ≠ 59 ∧ wW f ≠ 60 ∧ wW f ≠ 63 := by rcases wW_or f with e | e <;> rw [e] <;> decide
  have fin : ∀ (i j : Nat), i ≤ nLn l → (i = nLn l ∨ nLn l2 ≤ j) → ∀ (g1 : Nat → Nat → Int32), (PR (LN l) (LN l2)).drop i = pr (LN l) (LN l2) i j → (∀ i2, i2 < i → g1 (wW f) i2 = ptr (PR (LN l) (LN l2)) i2) → (∀ i2, i ≤ i2 → i2 < nLn l → g1 (wW f) i2 = -1) → (∀ a, a ≠ wW f → g1 a = g a) → Q none (wi H g1) := by
    intro i j hi hor g1 hP h1 h3 hfr
    refine K g1 (fun i2 hi2 => ?_) hfr
    by_cases e : i2 < i
    · exact h1 i2 e
    · rw [h3 i2 (by omega) hi2]
      rcases hor with q | q
      · omega
      · have hl : i2 < (PR (LN l) (LN l2)).length := by rw [PR_len]; omega
        rcases ps_get hl with z | ⟨k, z⟩
        · rw [ptr_none z]
        · exfalso
          have hmem : some k ∈ (PR (LN l) (LN l2)).drop i := by
            refine List.mem_of_getElem? (i := i2 - i) ?_
            rw [List.getElem?_drop, show i + (i2 - i) = i2 by omega]
            exact z
          rw [hP] at hmem
          have := pr_all (nLn l - i) (LN l) (LN l2) i j (by omega) (by omega) _ hmem
          cases this
  intro m
  induction m with
  | zero =>
    intro i j hm hi hj g1 v hP h1 h3 hfr
    exact f_Model_match_228 hF (fun _ => fin i j hi (Or.inl (by omega)) g1 hP h1 h3 hfr) (fun q => absurd (nI_le (by omega) (by omega)) q) (fun q => absurd (nI_le (by omega) (by omega)) q)
  | succ m ih =>
    intro i j hm hi hj g1 v hP h1 h3 hfr
    have hs1 := h.fr (hfr 59 (Ne.symm hw.1)) (hfr 60 (Ne.symm hw.2.1))
    have hs2 := h2.fr (hfr 59 (Ne.symm hw.1)) (hfr 60 (Ne.symm hw.2.1))
    have h63 := hfr 63 (Ne.symm hw.2.2)
    by_cases hin : i < nLn l
    · have hni : ¬ nI (nLn l) ≤ nI i := nI_ge hin (by omega)
      by_cases hjm : j < nLn l2
      · have hnj : ¬ nI (nLn l2) ≤ nI j := nI_ge hjm (by omega)
        refine f_Model_match_228 hF (fun q => absurd q hni) (fun _ q => absurd q hnj) (fun _ _ => ?_)
        refine c_equal hd hF hs1 hs2 hin hjm (fun r hr => ?_)
        rw [← LN_getD hin, ← LN_getD hjm] at hr
        have e2 : (42 : Int32) * nI i + nI j + 1 = nI (42 * i + (j + 1)) := by rw [nI_42, nI_1]; rfl
        have e3 : (42 : Int32) * (nI i + 1) + nI j = nI (42 * (i + 1) + j) := by rw [nI_1, nI_42]
        have c2 : ((42 : Int32) * nI i + nI j + 1).toNatClampNeg = 42 * i + (j + 1) := by rw [e2, nI_clamp (by omega)]
        have c3 : ((42 : Int32) * (nI i + 1) + nI j).toNatClampNeg = 42 * (i + 1) + j := by rw [e3, nI_clamp (by omega)]
        have t2 : g1 63 (42 * i + (j + 1)) = nI (lc (LN l) (LN l2) i (j + 1)) := by rw [h63]; exact ht i (j + 1) (by omega) (by omega)
        have t3 : g1 63 (42 * (i + 1) + j) = nI (lc (LN l) (LN l2) (i + 1) j) := by rw [h63]; exact ht (i + 1) j (by omega) (by omega)
        have b2 := lb i (j + 1)
        have b3 := lb (i + 1) j
        refine f_Model_match_252 hF (fun _ => by rw [e3]; exact vp_in_nI (by omega) (by decide)) (fun _ => by rw [e2]; exact vp_in_nI (by omega) (by decide)) (fun hr0 q => ?_) (fun hr0 q => ?_) (fun hr0 => ?_)
        · have hne : ¬ (LN l).getD i [] = (LN l2).getD j [] := by
            rcases hr with ⟨-, hr⟩ | ⟨hr, -⟩
            · rw [hr] at hr0; exact absurd hr0 (by decide)
            · exact hr
          rw [c3, t3, c2, t2, nI_ltI (by omega) (by omega)] at q
          rw [nI_1]
          exact ih i (j + 1) (by omega) hi (by omega) g1 v (by rw [hP, pr_skip (by omega) (by omega) hne (by omega)]) h1 h3 hfr
        · have hne : ¬ (LN l).getD i [] = (LN l2).getD j [] := by
            rcases hr with ⟨-, hr⟩ | ⟨hr, -⟩
            · rw [hr] at hr0; exact absurd hr0 (by decide)
            · exact hr
          rw [c3, t3, c2, t2, nI_ltI (by omega) (by omega)] at q
          rw [nI_1]
          rw [pr_none (by omega) (by omega) hne (by omega)] at hP
          obtain ⟨p1, p2⟩ := drop_sp hP
          refine ih (i + 1) j (by omega) (by omega) hj g1 v p2 (fun i2 hi2 => ?_) (fun i2 q1 q2 => h3 i2 (by omega) q2) hfr
          by_cases e : i2 = i
          · subst e; rw [ptr_none p1]; exact h3 i2 (Nat.le_refl _) hin
          · exact h1 i2 (by omega)
        · have he : (LN l).getD i [] = (LN l2).getD j [] := by
            rcases hr with ⟨hr, -⟩ | ⟨-, hr⟩
            · exact hr
            · exact absurd hr hr0
          refine c_note (by omega) hF (by omega) ?_
          refine f_Model_match_264 hF ?_
          rw [nI_1, nI_1]
          rw [pr_eq (by omega) (by omega) he] at hP
          obtain ⟨p1, p2⟩ := drop_sp hP
          refine ih (i + 1) (j + 1) (by omega) (by omega) (by omega) _ v p2 (fun i2 hi2 => ?_) (fun i2 q1 q2 => ?_) (fun a ha => ?_)
          · show sm_u2 g1 (wW f) i (nI j) (wW f) i2 = _
            by_cases e : i2 = i
            · subst e; rw [u2_self, ptr_some p1]
            · rw [u2_ne (Or.inr e)]; exact h1 i2 (by omega)
          · show sm_u2 g1 (wW f) i (nI j) (wW f) i2 = _
            rw [u2_ne (Or.inr (by omega))]; exact h3 i2 (by omega) q2
          · show sm_u2 g1 (wW f) i (nI j) a = g a
            rw [u2_na ha]; exact hfr a ha
      · exact f_Model_match_228 hF (fun q => absurd q hni) (fun _ _ => fin i j hi (Or.inr (by omega)) g1 hP h1 h3 hfr) (fun _ q => absurd (nI_le (by omega) (by omega)) q)
    · exact f_Model_match_228 hF (fun _ => fin i j hi (Or.inl (by omega)) g1 hP h1 h3 hfr) (fun q => absurd (nI_le (by omega) (by omega)) q) (fun q => absurd (nI_le (by omega) (by omega)) q)
theorem c_match (hd : 5 ≤ d) (hF : Fix H) (h : SL g x l) (h2 : SL g y l2)
    (K : ∀ (g' : Nat → Nat → Int32), (∀ i, i < nLn l → g' (wW f) i = ptr (PR (LN l) (LN l2)) i) → (∀ a, a ≠ wW f → a ≠ 63 → g' a = g a) → Q none (wi H g')) : cwp d 125 [vR 58, vI x, vI y, vI f] (wi H g) Q := by
  have hle := h.le
  have hle2 := h2.le
  have hn := nLn_le l
  have hn2 := nLn_le l2
  have hw : wW f ≠ 59 ∧ wW f ≠ 60 ∧ wW f ≠ 63 := by rcases wW_or f with e | e <;> rw [e] <;> decide
  refine e_Model_match (by omega) (hF.c 58 31 rfl) (f_Model_match_0 hF (c_lines (by omega) hF h ?_))
  refine f_Model_match_5 hF (c_lines (by omega) hF h2 ?_)
  refine f_Model_match_12 hF ?_
  have := l_tabI (f := f) (Q := Q) (d := d - 1) (by omega) hF h h2 (fun g2 u v ht hfr => ?_) (nLn l + 1) (Nat.le_refl _) g vU vU (fun i2 j2 q1 q2 => by omega) (fun a _ => rfl)
  · rw [dn_s] at this
    exact this
  · have hs1 := h.fr (hfr 59 (by decide)) (hfr 60 (by decide))
    have hs2 := h2.fr (hfr 59 (by decide)) (hfr 60 (by decide))
    refine l_notes (l := l) (l2 := l2) (x := x) (y := y) (g := g2) (by omega) hF (by omega) (fun g3 w hm hfr3 => ?_) (nLn l) 0 (by omega) g2 u v (fun i2 hi2 => by omega) (fun a _ => rfl)
    have hs3 := hs1.fr (hfr3 59 (Ne.symm hw.1)) (hfr3 60 (Ne.symm hw.2.1))
    have hs4 := hs2.fr (hfr3 59 (Ne.symm hw.1)) (hfr3 60 (Ne.symm hw.2.1))
    refine l_walk (f := f) (g := g3) (by omega) hF hs3 hs4 (fun i j q1 q2 => by rw [hfr3 63 (Ne.symm hw.2.2)]; exact ht i j q1 q2) (fun g4 h4 hfr4 => K g4 h4 (fun a q1 q2 => by rw [hfr4 a q1, hfr3 a q1, hfr a q2])) _ 0 0 (Nat.le_refl _) (Nat.zero_le _) (Nat.zero_le _) g3 w rfl (fun i2 hi2 => by omega) (fun i2 _ hi2 => hm i2 hi2) (fun a _ => rfl)
end MODD
