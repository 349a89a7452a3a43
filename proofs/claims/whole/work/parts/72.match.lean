/-! the class: common lines -/
theorem TX.fr {H : AH} {g g' : Nat → Nat → Int32} {t : Nat} {l : Tx} (h : TX H g t l) (h1 : g' t = g t) (h2 : g' (gr H t 0) = g (gr H t 0)) (h3 : g' (gr H t 1) = g (gr H t 1)) : TX H g' t l := by
  unfold TX at *
  rw [h1, h2, h3]
  exact h
/-- a row of ints of another length is no part of a text -/
theorem TO.nk {H : AH} {t a n : Nat} (h : TO H t) (hk : kd H a = (1, n)) (hn : n ≠ 42) : t ≠ a ∧ gr H t 0 ≠ a ∧ gr H t 1 ≠ a := by
  refine ⟨fun e => ?_, fun e => ?_, fun e => ?_⟩
  · have := h.1; rw [e, hk] at this; simp at this
  · have := h.2.1; rw [e, hk] at this; simp at this
  · have := h.2.2; rw [e, hk] at this; simp at this; exact hn this
/-- all is as it was but rows of ints that are no part of a text -/
def RF (H : AH) (P : Nat → Prop) (g g' : Nat → Nat → Int32) : Prop := (∀ a, ¬ P a → g' a = g a) ∧ ∀ a, P a → ∃ n, kd H a = (1, n) ∧ n ≠ 42
theorem TX.rf {H : AH} {g g' : Nat → Nat → Int32} {P : Nat → Prop} {t : Nat} {l : Tx} (h : TX H g t l) (hT : TO H t) (hf : RF H P g g') : TX H g' t l := by
  have z : ∀ a, a = t ∨ a = gr H t 0 ∨ a = gr H t 1 → g' a = g a := fun a ha => hf.1 a (fun hp => by
    obtain ⟨n, hk, hn⟩ := hf.2 a hp
    obtain ⟨q1, q2, q3⟩ := hT.nk hk hn
    rcases ha with rfl | rfl | rfl
    · exact q1 rfl
    · exact q2 rfl
    · exact q3 rfl)
  exact h.fr (z t (Or.inl rfl)) (z _ (Or.inr (Or.inl rfl))) (z _ (Or.inr (Or.inr rfl)))
theorem nI_m42 (s k : Nat) : nI s * (42 : Int32) + nI k = nI (42 * s + k) := by rw [Int32.mul_comm, nI_42]
theorem dn_m (n : Nat) : nI n - 1 = dn n := by unfold dn; exact Int32.sub_eq_add_neg _ _
theorem dn_p (n : Nat) : nI n + (-1) = dn n := rfl
def TQ (X Y : List Ln) (g : Nat → Nat → Int32) (i j : Nat) : Prop :=
  (∀ i2 j2, i < i2 → i2 ≤ X.length → j2 ≤ Y.length → g 28 (42 * i2 + j2) = nI (lc X Y i2 j2)) ∧ ∀ j2, j ≤ j2 → j2 ≤ Y.length → g 28 (42 * i + j2) = nI (lc X Y i j2)
theorem TQ.set {X Y : List Ln} {g : Nat → Nat → Int32} {i j : Nat} (h : TQ X Y g i (j + 1)) (hj : j ≤ Y.length) (hY : Y.length ≤ 41) : TQ X Y (sm_u2 g 28 (42 * i + j) (nI (lc X Y i j))) i j := by
  refine ⟨fun i2 j2 h1 h2 h3 => ?_, fun j2 h1 h2 => ?_⟩
  · rw [u2_ne (Or.inr (by omega))]
    exact h.1 i2 j2 h1 h2 h3
  · by_cases e : j2 = j
    · subst e; rw [u2_self]
    · rw [u2_ne (Or.inr (by omega))]
      exact h.2 j2 (by omega) h2
theorem LN_gD {l : Tx} {i : Nat} (h : i < nLn l) : (LN l).getD i [] = lnx (tf l) l.length i := by
  rw [List.getD_eq_getElem?_getD, LN_get h]
  rfl
def TQA (X Y : List Ln) (g : Nat → Nat → Int32) : Prop := ∀ i j, i ≤ X.length → j ≤ Y.length → g 28 (42 * i + j) = nI (lc X Y i j)
section MTCH
variable {d : Nat} {Q : Option AV → AH → Prop} {H : AH} {g : Nat → Nat → Int32} {t t2 : Nat} {l l2 : Tx} {x : Int32}
theorem Fix.k28 (hF : Fix H) : kd H 28 = (1, 1764) := hF.2.1 28 _ rfl
theorem Fix.o28 (hF : Fix H) {g1 : Nat → Nat → Int32} (h : ∀ a, a ≠ 28 → g1 a = g a) : RF H (fun a => a = 28) g g1 := ⟨h, fun a ha => ⟨1764, by rw [ha]; exact hF.k28, by decide⟩⟩
theorem lm_c65 {i : Nat} (hd : 2 ≤ d) (hF : Fix H) (hT : TO H t) (hX : TX H g t l) (hT2 : TO H t2) (hX2 : TX H g t2 l2) (hi : i < nLn l)
    (k : ∀ g2 u4 u5, TQ (LN l) (LN l2) g2 i 0 → (∀ a, a ≠ 28 → g2 a = g a) → wp d sc_Matcher_countMost 38 [vR 27, vR t, vR t2, vI (dn i), u4, u5] [] (wi H g2) Q) :
    ∀ (m : Nat) (g1 : Nat → Nat → Int32) (u5 : AV), m ≤ nLn l2 → TQ (LN l) (LN l2) g1 i m → (∀ a, a ≠ 28 → g1 a = g a) → wp d sc_Matcher_countMost 65 [vR 27, vR t, vR t2, vI (nI i), vI (dn m), u5] [] (wi H g1) Q := by
  have hl := hX.2.1
  have hl2 := hX2.2.1
  have hn := nLn_le l
  have hn2 := nLn_le l2
  have hLN := LN_len l
  have hLN2 := LN_len l2
  intro m
  induction m with
  | zero =>
    intro g1 u5 _ hq hf
    exact f_Matcher_countMost_65 hF (fun _ => by rw [dn_p]; exact k g1 _ _ hq hf) (fun q => absurd dn_0 q)
  | succ m ih =>
    intro g1 u5 hm hq hf
    have hfr := hF.o28 hf
    rw [dn_s]
    have c42 : nI (42 * i + m) + 42 = nI (42 * (i + 1) + m) := by rw [show (42 : Int32) = nI 42 from rfl, nI_add]; congr 1; omega
    have c43 : nI (42 * (i + 1) + m) + 1 = nI (42 * (i + 1) + (m + 1)) := nI_1 _
    have c1 : nI (42 * i + m) + 1 = nI (42 * i + (m + 1)) := nI_1 _
    have b1 := lc_le (LN l) (LN l2) (i + 1) m
    have b2 := lc_le (LN l) (LN l2) i (m + 1)
    have b3 := lc_le (LN l) (LN l2) (i + 1) (m + 1)
    have q1 : g1 28 (42 * (i + 1) + m) = nI (lc (LN l) (LN l2) (i + 1) m) := hq.1 _ _ (by omega) (by omega) (by omega)
    have q2 : g1 28 (42 * i + (m + 1)) = nI (lc (LN l) (LN l2) i (m + 1)) := hq.2 _ (by omega) (by omega)
    have q3 : g1 28 (42 * (i + 1) + (m + 1)) = nI (lc (LN l) (LN l2) (i + 1) (m + 1)) := hq.1 _ _ (by omega) (by omega) (by omega)
    have go : ∀ V, V = nI (lc (LN l) (LN l2) i m) → wp d sc_Matcher_countMost 65 [vR 27, vR t, vR t2, vI (nI i), vI (nI m + (-1)), vI (nI (42 * i + m))] [] (wi H (sm_u2 g1 28 (42 * i + m) V)) Q := fun V hV => by
      rw [hV, dn_p]
      exact ih _ _ (by omega) (hq.set (by omega) (by omega)) (fun a ha => by rw [u2_na ha]; exact hf a ha)
    refine f_Matcher_countMost_65 hF (fun q => absurd q (nI_pos (by omega))) (fun _ => x_sameLine hd hT (hX.rf hT hfr) hT2 (hX2.rf hT2 hfr) hi (by omega) (fun r hr => ?_))
    rw [nI_m42]
    have hc : (nI (42 * i + m)).toNatClampNeg = 42 * i + m := nI_clamp (by omega)
    refine f_Matcher_countMost_93 hF (fun _ => by rw [c42]; exact vp_in_nI (by omega) (by decide)) (fun _ => by rw [c1]; exact vp_in_nI (by omega) (by decide)) (fun _ => vp_in_nI (by omega) (by decide)) (fun _ => by rw [c42, c43]; exact vp_in_nI (by omega) (by decide)) (fun _ => vp_in_nI (by omega) (by decide)) (fun q => ?_) (fun q => ?_)
    · rcases hr with ⟨-, hr⟩ | ⟨hr, -⟩
      · rw [hr] at q; exact absurd q (by decide)
      rw [hc, c42, c1, nI_clamp (by omega), nI_clamp (by omega), q1, q2]
      refine go _ ?_
      have hlc : lc (LN l) (LN l2) i m = max (lc (LN l) (LN l2) (i + 1) m) (lc (LN l) (LN l2) i (m + 1)) := lc_ne (by omega) (by omega) (by rw [LN_gD hi, LN_gD (by omega)]; exact hr)
      rw [hlc]
      split
      · rename_i z
        rw [nI_ltI (by omega) (by omega)] at z
        congr 1; omega
      · rename_i z
        rw [nI_ltI (by omega) (by omega)] at z
        congr 1; omega
    · rcases hr with ⟨hr, -⟩ | ⟨-, hr⟩
      · rw [hc, c42, c43, nI_clamp (by omega), q3, nI_1]
        refine go _ ?_
        have hlc : lc (LN l) (LN l2) i m = lc (LN l) (LN l2) (i + 1) (m + 1) + 1 := lc_eq (by omega) (by omega) (by rw [LN_gD hi, LN_gD (by omega)]; exact hr)
        rw [hlc]
      · exact absurd hr q
theorem lm_c38 (hd : 2 ≤ d) (hF : Fix H) (hT : TO H t) (hX : TX H g t l) (hT2 : TO H t2) (hX2 : TX H g t2 l2) (k : ∀ g2, TQA (LN l) (LN l2) g2 → (∀ a, a ≠ 28 → g2 a = g a) → Q none (wi H g2)) :
    ∀ (m : Nat) (g1 : Nat → Nat → Int32) (u4 u5 : AV), m ≤ nLn l → (∀ i2 j2, m ≤ i2 → i2 ≤ nLn l → j2 ≤ nLn l2 → g1 28 (42 * i2 + j2) = nI (lc (LN l) (LN l2) i2 j2)) → (∀ a, a ≠ 28 → g1 a = g a) → wp d sc_Matcher_countMost 38 [vR 27, vR t, vR t2, vI (dn m), u4, u5] [] (wi H g1) Q := by
  have hl := hX.2.1
  have hl2 := hX2.2.1
  have hn := nLn_le l
  have hn2 := nLn_le l2
  have hLN := LN_len l
  have hLN2 := LN_len l2
  have n28 := hT2.nk hF.k28 (by decide)
  intro m
  induction m with
  | zero =>
    intro g1 u4 u5 _ hq hf
    exact f_Matcher_countMost_38 (by omega) hF (fun q => absurd dn_0 q) (fun q => absurd dn_0 q) (fun _ => k g1 (fun i j h1 h2 => hq i j (Nat.zero_le _) (by omega) (by omega)) hf) (fun q => absurd dn_0 q)
  | succ m ih =>
    intro g1 u4 u5 hm hq hf
    rw [dn_s]
    have e3 : g1 t2 3 = nI (nLn l2) := by rw [hf t2 n28.1]; exact hX2.2.2.2.1
    refine f_Matcher_countMost_38 (by omega) hF (fun _ => hT2.1) (fun _ => by rw [e3, nI_m42]; exact vp_in_nI (by omega) (by decide)) (fun q => absurd q (nI_pos (by omega))) (fun _ => ?_)
    rw [u2_na n28.1, e3, nI_m42, nI_clamp (by omega), dn_m]
    have hq2 : TQ (LN l) (LN l2) (sm_u2 g1 28 (42 * m + nLn l2) 0) m (nLn l2) := by
      have h0 : lc (LN l) (LN l2) m (nLn l2) = 0 := lc_n2 (by omega)
      have := TQ.set (X := LN l) (Y := LN l2) (g := g1) (i := m) (j := nLn l2) ⟨fun i2 j2 a b c => hq i2 j2 a (by omega) (by omega), fun j2 a b => by omega⟩ (by omega) (by omega)
      rw [h0] at this
      exact this
    refine lm_c65 hd hF hT hX hT2 hX2 (by omega) (fun g2 u4 u5 hq3 hf3 => ?_) (nLn l2) _ _ (Nat.le_refl _) hq2 (fun a ha => by rw [u2_na ha]; exact hf a ha)
    refine ih g2 _ _ (by omega) (fun i2 j2 a b c => ?_) hf3
    rcases Nat.lt_or_ge m i2 with z | z
    · exact hq3.1 i2 j2 z (by omega) (by omega)
    · have e : i2 = m := by omega
      subst e
      exact hq3.2 j2 (Nat.zero_le _) (by omega)
theorem x_countMost (hd : 3 ≤ d) (hF : Fix H) (hT : TO H t) (hX : TX H g t l) (hT2 : TO H t2) (hX2 : TX H g t2 l2) (k : ∀ g2, TQA (LN l) (LN l2) g2 → (∀ a, a ≠ 28 → g2 a = g a) → Q none (wi H g2)) : cwp d 25 [vR 27, vR t, vR t2] (wi H g) Q := by
  have hl := hX.2.1
  have hl2 := hX2.2.1
  have hn := nLn_le l
  have hn2 := nLn_le l2
  have hLN := LN_len l
  have hLN2 := LN_len l2
  have n28 := hT2.nk hF.k28 (by decide)
  have m28 := hT.nk hF.k28 (by decide)
  refine e_Matcher_countMost (by omega) (hF.c 27 22 rfl) (f_Matcher_countMost_0 hF ?_)
  have loop : ∀ (m j : Nat) (g1 : Nat → Nat → Int32) (u4 u5 : AV), j + m = nLn l2 + 1 → (∀ j2, j2 < j → g1 28 (42 * nLn l + j2) = 0) → (∀ a, a ≠ 28 → g1 a = g a) → wp (d - 1) sc_Matcher_countMost 2 [vR 27, vR t, vR t2, vI (nI j), u4, u5] [] (wi H g1) Q := by
    intro m
    induction m with
    | zero =>
      intro j g1 u4 u5 hj hq hf
      have e3 : g1 t2 3 = nI (nLn l2) := by rw [hf t2 n28.1]; exact hX2.2.2.2.1
      have e4 : g1 t 3 = nI (nLn l) := by rw [hf t m28.1]; exact hX.2.2.2.1
      have z : g1 t2 3 < nI j := by rw [e3]; exact nI_lt (by omega) (by omega)
      refine f_Matcher_countMost_2 (by omega) hF hT2.1 (fun _ => hT.1) (fun q => absurd z q) (fun q => absurd z q) (fun _ => ?_) (fun q => absurd z q)
      rw [e4, dn_m]
      refine lm_c38 (by omega) hF hT hX hT2 hX2 k (nLn l) g1 _ _ (Nat.le_refl _) (fun i2 j2 a b c => ?_) hf
      have e : i2 = nLn l := by omega
      subst e
      rw [hq j2 (by omega), lc_n1 (by omega)]
      rfl
    | succ m ih =>
      intro j g1 u4 u5 hj hq hf
      have e3 : g1 t2 3 = nI (nLn l2) := by rw [hf t2 n28.1]; exact hX2.2.2.2.1
      have e4 : g1 t 3 = nI (nLn l) := by rw [hf t m28.1]; exact hX.2.2.2.1
      have z : ¬ g1 t2 3 < nI j := by rw [e3]; exact nI_nlt (by omega) (by omega)
      refine f_Matcher_countMost_2 (by omega) hF hT2.1 (fun _ => hT.1) (fun _ => hT.1) (fun _ => by rw [e4, nI_m42]; exact vp_in_nI (by omega) (by decide)) (fun q => absurd q z) (fun _ => ?_)
      rw [e4, nI_m42, nI_clamp (by omega), nI_1]
      refine ih (j + 1) _ _ _ (by omega) (fun j2 hj2 => ?_) (fun a ha => by rw [u2_na ha]; exact hf a ha)
      by_cases e : j2 = j
      · subst e; rw [u2_self]
      · rw [u2_ne (Or.inr (by omega))]; exact hq j2 (by omega)
  exact loop (nLn l2 + 1) 0 g _ _ (by omega) (fun j2 h => by omega) (fun a _ => rfl)
theorem x_skipTo {i j : Nat} (hd : 3 ≤ d) (hF : Fix H) (hT : TO H t) (hX : TX H g t l) (hT2 : TO H t2) (hX2 : TX H g t2 l2) (hq : TQA (LN l) (LN l2) g) (hi : i < nLn l) (hj : j ≤ nLn l2)
    (k : ∀ q, j ≤ q → q ≤ nLn l2 → pr (LN l) (LN l2) i j = pr (LN l) (LN l2) i q → (q < nLn l2 → lnx (tf l) l.length i = lnx (tf l2) l2.length q ∨ lc (LN l) (LN l2) i (q + 1) ≤ lc (LN l) (LN l2) (i + 1) q) → Q (some (vI (nI q))) (wi H g)) : cwp d 26 [vR 27, vR t, vI (nI i), vR t2, vI (nI j)] (wi H g) Q := by
  have hl := hX.2.1
  have hl2 := hX2.2.1
  have hn := nLn_le l
  have hn2 := nLn_le l2
  have hLN := LN_len l
  have hLN2 := LN_len l2
  have e3 : g t2 3 = nI (nLn l2) := hX2.2.2.2.1
  refine e_Matcher_skipTo (by omega) (hF.c 27 22 rfl) (f_Matcher_skipTo_0 hF ?_)
  have loop : ∀ (m q : Nat) (u6 : AV), q + m = nLn l2 → j ≤ q → pr (LN l) (LN l2) i j = pr (LN l) (LN l2) i q → wp (d - 1) sc_Matcher_skipTo 4 [vR 27, vR t, vI (nI i), vR t2, vI (nI j), vI (nI q), u6] [] (wi H g) Q := by
    intro m
    induction m with
    | zero =>
      intro q u6 hm hjq hp
      have e : q = nLn l2 := by omega
      refine f_Matcher_skipTo_4 (by omega) hF hT2.1 (fun _ => ?_) (fun z => absurd (by rw [e3, e]; exact Int32.le_refl _) z)
      rw [e3, ← e]
      exact k q hjq (by omega) hp (fun z => by omega)
    | succ m ih =>
      intro q u6 hm hjq hp
      have z : ¬ g t2 3 ≤ nI q := by rw [e3]; exact nI_ge (by omega) (by omega)
      have hqn : q < nLn l2 := by omega
      refine f_Matcher_skipTo_4 (by omega) hF hT2.1 (fun w => absurd w z) (fun _ => x_sameLine (by omega) hT hX hT2 hX2 hi hqn (fun r hr => ?_))
      rw [nI_m42]
      have c42 : nI (42 * i + q) + 42 = nI (42 * (i + 1) + q) := by rw [show (42 : Int32) = nI 42 from rfl, nI_add]; congr 1; omega
      have c1 : nI (42 * i + q) + 1 = nI (42 * i + (q + 1)) := nI_1 _
      have b1 := lc_le (LN l) (LN l2) (i + 1) q
      have b2 := lc_le (LN l) (LN l2) i (q + 1)
      have q1 : g 28 (nI (42 * (i + 1) + q)).toNatClampNeg = nI (lc (LN l) (LN l2) (i + 1) q) := by rw [nI_clamp (by omega)]; exact hq _ _ (by omega) (by omega)
      have q2 : g 28 (nI (42 * i + (q + 1))).toNatClampNeg = nI (lc (LN l) (LN l2) i (q + 1)) := by rw [nI_clamp (by omega)]; exact hq _ _ (by omega) (by omega)
      refine f_Matcher_skipTo_30 hF (fun _ => by rw [c42]; exact vp_in_nI (by omega) (by decide)) (fun _ => by rw [c1]; exact vp_in_nI (by omega) (by decide)) (fun w => ?_) (fun w w2 => ?_) (fun w w2 => ?_)
      · rcases hr with ⟨hr, -⟩ | ⟨-, hr⟩
        · exact k q hjq (by omega) hp (fun _ => Or.inl hr)
        · exact absurd hr w
      · rcases hr with ⟨-, hr⟩ | ⟨hr, -⟩
        · rw [hr] at w; exact absurd w (by decide)
        rw [c42, c1, q1, q2, nI_ltI (by omega) (by omega)] at w2
        rw [nI_1]
        refine ih (q + 1) _ (by omega) (by omega) ?_
        rw [hp, pr_skip (by omega) (by omega) (by rw [LN_gD hi, LN_gD hqn]; exact hr) (by omega)]
      · rw [c42, c1, q1, q2, nI_ltI (by omega) (by omega)] at w2
        exact k q hjq (by omega) hp (fun _ => Or.inr (by omega))
  exact loop (nLn l2 - j) j _ (by omega) (Nat.le_refl _) rfl
end MTCH
