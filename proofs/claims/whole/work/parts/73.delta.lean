/-! the class: partners, and the space of a difference -/
theorem dsz_PR (A B : Tx) : dsz A B = dl (LN B) (PR (LN A) (LN B)) false 0 := rfl
theorem lsp_z {Y : List Ln} {j p : Nat} (h : p ≤ j) : lsp Y j p = 0 := by
  unfold lsp
  rw [show p - j = 0 by omega]
  simp
section DLT
variable {d : Nat} {Q : Option AV → AH → Prop} {H : AH} {g : Nat → Nat → Int32} {t t2 : Nat} {l l2 : Tx} {x : Int32}
theorem o2A {A : Nat} {g1 : Nat → Nat → Int32} (hF : Fix H) (hA : kd H A = (1, 41)) (h : ∀ a, a ≠ 28 → a ≠ A → g1 a = g a) : RF H (fun a => a = 28 ∨ a = A) g g1 := ⟨fun a ha => h a (fun e => ha (Or.inl e)) (fun e => ha (Or.inr e)), fun a ha => by
  rcases ha with e | e
  · exact ⟨1764, by rw [e]; exact hF.k28, by decide⟩
  · exact ⟨41, by rw [e]; exact hA, by decide⟩⟩
theorem x_match {A : Nat} (hd : 4 ≤ d) (hF : Fix H) (hA : kd H A = (1, 41)) (hT : TO H t) (hX : TX H g t l) (hT2 : TO H t2) (hX2 : TX H g t2 l2)
    (k : ∀ g' : Nat → Nat → Int32, (∀ i, i < nLn l → g' A i = ptr (PR (LN l) (LN l2)) i) → (∀ a, a ≠ 28 → a ≠ A → g' a = g a) → Q none (wi H g')) : cwp d 23 [vR 27, vR t, vR t2, vR A] (wi H g) Q := by
  have hl := hX.2.1
  have hl2 := hX2.2.1
  have hn := nLn_le l
  have hn2 := nLn_le l2
  have hLN := LN_len l
  have hLN2 := LN_len l2
  have hA28 : A ≠ 28 := fun e => by have := hF.k28; rw [← e, hA] at this; simp at this
  refine e_Matcher_match (by omega) (hF.c 27 22 rfl) (f_Matcher_match_0 hF (x_countMost (by omega) hF hT hX hT2 hX2 (fun g0 hq0 hf0 => f_Matcher_match_6 hF ?_)))
  have loop : ∀ (m i j : Nat) (g1 : Nat → Nat → Int32) (ps : List (Option Nat)), i + m = nLn l → j ≤ nLn l2 → PR (LN l) (LN l2) = ps ++ pr (LN l) (LN l2) i j → ps.length = i → (∀ i2, i2 < i → g1 A i2 = ptr (PR (LN l) (LN l2)) i2) → TQA (LN l) (LN l2) g1 → (∀ a, a ≠ 28 → a ≠ A → g1 a = g a) →
      wp (d - 1) sc_Matcher_match 12 [vR 27, vR t, vR t2, vR A, vI (nI j), vI (nI i)] [] (wi H g1) Q := by
    intro m
    induction m with
    | zero =>
      intro i j g1 ps hi hj hps hpl hp hq hf
      have hX1 := hX.rf hT (o2A hF hA hf)
      have e : i = nLn l := by omega
      refine f_Matcher_match_12 (by omega) hF hT.1 (fun _ => k g1 (fun i2 h2 => hp i2 (by omega)) hf) (fun z => absurd (by rw [hX1.2.2.2.1, e]; exact Int32.le_refl _) z)
    | succ m ih =>
      intro i j g1 ps hi hj hps hpl hp hq hf
      have hX1 := hX.rf hT (o2A hF hA hf)
      have hX12 := hX2.rf hT2 (o2A hF hA hf)
      have hin : i < nLn l := by omega
      refine f_Matcher_match_12 (by omega) hF hT.1 (fun z => absurd z (by rw [hX1.2.2.2.1]; exact nI_ge hin (by omega))) (fun _ => x_skipTo (by omega) hF hT hX1 hT2 hX12 hq hin hj (fun q hjq hqn hpr hst => ?_))
      have ci : (nI i).toNatClampNeg = i := nI_clamp (by omega)
      have va : vp_in (nI i) (kd H A).2 := by rw [hA]; exact vp_in_nI (by show _ < 41; omega) (by decide)
      have nxt : ∀ (v : Option Nat) (j' : Nat) (V : Int32), pr (LN l) (LN l2) i q = v :: pr (LN l) (LN l2) (i + 1) j' → j' ≤ nLn l2 → (∀ ps', ps'[i]? = some v → V = ptr ps' i) → wp (d - 1) sc_Matcher_match 12 [vR 27, vR t, vR t2, vR A, vI (nI j'), vI (nI i + 1)] [] (wi H (sm_u2 g1 A (nI i).toNatClampNeg V)) Q := by
        intro v j' V hv hj' hV
        have hat : (PR (LN l) (LN l2))[i]? = some v := lk_one _ _ i j ps hps hpl v _ (by rw [hpr]; exact hv)
        rw [nI_1, ci]
        refine ih (i + 1) j' _ (ps ++ [v]) (by omega) hj' ?_ (by simp [hpl]) (fun i2 h2 => ?_) (fun a b h1 h2 => ?_) (fun a h1 h2 => by rw [u2_na h2]; exact hf a h1 h2)
        · rw [hps, hpr, hv, List.append_assoc]; rfl
        · by_cases e : i2 = i
          · subst e; rw [u2_self]; exact hV _ hat
          · rw [u2_ne (Or.inr e)]; exact hp i2 (by omega)
        · rw [u2_na (Ne.symm hA28)]; exact hq a b h1 h2
      have e3 : g1 t2 3 = nI (nLn l2) := hX12.2.2.2.1
      refine f_Matcher_match_31 (by omega) hF hT2.1 (fun _ => by rw [hA]) (fun _ => va) (fun z => ?_) (fun z => ?_)
      · rw [e3, nI_leI (by omega) (by omega)] at z
        have e : q = nLn l2 := by omega
        exact nxt none q (-1) (pr_end (by omega) (by omega)) hqn (fun ps' h => (ptr_none h).symm)
      · rw [e3, nI_leI (by omega) (by omega)] at z
        have hq2 : q < nLn l2 := by omega
        refine x_sameLine (by omega) hT hX1 hT2 hX12 hin hq2 (fun r hr => ?_)
        refine f_Matcher_match_51 hF (fun _ => by rw [hA]) (fun _ => va) (fun _ => by rw [hA]) (fun _ => va) (fun w => ?_) (fun w => ?_)
        · rcases hr with ⟨-, hr⟩ | ⟨hr, -⟩
          · rw [hr] at w; exact absurd w (by decide)
          refine nxt none q (-1) (pr_none (by omega) (by omega) (by rw [LN_gD hin, LN_gD hq2]; exact hr) ?_) hqn (fun ps' h => (ptr_none h).symm)
          rcases hst hq2 with z1 | z1
          · exact absurd z1 hr
          · exact z1
        · rcases hr with ⟨hr, -⟩ | ⟨-, hr⟩
          · rw [nI_1 q]
            exact nxt (some q) (q + 1) (nI q) (pr_eq (by omega) (by omega) (by rw [LN_gD hin, LN_gD hq2]; exact hr)) (by omega) (fun ps' h => (ptr_some h).symm)
          · exact absurd hr w
  exact loop (nLn l) 0 0 g0 [] (by omega) (Nat.zero_le _) rfl rfl (fun i2 h => by omega) hq0 (fun a h1 _ => hf0 a h1)
theorem x_linesSpace {i j : Nat} (hd : 2 ≤ d) (hT : TO H t) (hX : TX H g t l) (hi : i ≤ 50) (hj : j ≤ nLn l) (k : Q (some (vI (nI (lsp (LN l) i j)))) (wi H g)) : cwp d 27 [vR t, vI (nI i), vI (nI j)] (wi H g) Q := by
  have hl := hX.2.1
  have hn := nLn_le l
  refine e_Matcher_linesSpace (by omega) (t_Matcher_linesSpace_0 ?_)
  rcases Nat.lt_or_ge i j with hij | hij
  · have loop : ∀ (m q : Nat), q + m = j → i ≤ q → wp (d - 1) sc_Matcher_linesSpace 5 [vR t, vI (nI i), vI (nI j), vI (nI (lsp (LN l) i q)), vI (nI q)] [] (wi H g) Q := by
      intro m
      induction m with
      | zero =>
        intro q hq _
        have e : q = j := by omega
        have z : nI j ≤ nI q := nI_le (by omega) (by omega)
        subst e
        exact t_Matcher_linesSpace_5 (by omega) (fun w => absurd z w) (fun w => absurd z w) (fun w => absurd z w) (fun w => absurd z w) (fun _ => k) (fun w => absurd z w)
      | succ m ih =>
        intro q hq hiq
        have hql : q < nLn l := by omega
        obtain ⟨e1, e2, -⟩ := eLn_spec hql
        have z : ¬ nI j ≤ nI q := nI_ge (by omega) (by omega)
        have fa : gi (wi H g) (gr (wi H g) t 1) (nI q + 1).toNatClampNeg - 1 - gi (wi H g) (gr (wi H g) t 1) (nI q).toNatClampNeg = nI (eLn l q - sLn l q) := by
          rw [wi_gi, wi_gr, nI_1, nI_clamp (by omega), hX.st (by omega), po_s hql, nI_sub1, wi_gi, nI_clamp (by omega), hX.2.2.2.2.2.1 q hql, nI_sub e1]
        refine t_Matcher_linesSpace_5 (by omega) (fun _ => hT.1) (fun _ => by rw [wi_kd, wi_gr, hT.2.2]) (fun _ => by rw [wi_kd, wi_gr, hT.2.2, nI_1]; exact vp_in_nI (by show _ < 42; omega) (by decide)) (fun _ => by rw [wi_kd, wi_gr, hT.2.2]; exact vp_in_nI (by show _ < 42; omega) (by decide)) (fun w => absurd w z) (fun _ => ?_)
        rw [fa, nI_1, nI_1, nI_add]
        have hs := lsp_s (Y := LN l) (j := i) (p := q) hiq (LN_get hql)
        rw [lnx_len] at hs
        have := ih (q + 1) (by omega) (by omega)
        rw [hs] at this
        exact this
    have := loop (j - i) i (by omega) (Nat.le_refl _)
    rw [lsp_0] at this
    exact this
  · have z : nI j ≤ nI i := nI_le hij (by omega)
    rw [lsp_z hij] at k
    exact t_Matcher_linesSpace_5 (by omega) (fun w => absurd z w) (fun w => absurd z w) (fun w => absurd z w) (fun w => absurd z w) (fun _ => k) (fun w => absurd z w)
theorem lm_delta {T : Nat} (hd : 2 ≤ d) (hF : Fix H) (hT : TO H t) (hX : TX H g t l) (hT2 : TO H t2) (hX2 : TX H g t2 l2) (hp : ∀ i, i < nLn l → g 29 i = ptr (PR (LN l) (LN l2)) i) (k : Q (some (vI (nI T))) (wi H g)) :
    ∀ (m c s i j : Nat) (u7 u8 : AV), c + m = nLn l → i ≤ c → j ≤ nLn l2 → s + dl (LN l2) ((PR (LN l) (LN l2)).drop c) (decide (i < c)) j = T → wp d sc_Matcher_deltaSpace 21 [vR 27, vR t, vR t2, vI (nI s), vI (nI i), vI (nI j), vI (nI c), u7, u8] [] (wi H g) Q := by
  have hl := hX.2.1
  have hl2 := hX2.2.1
  have hn := nLn_le l
  have hn2 := nLn_le l2
  have hLN := LN_len l
  have hLN2 := LN_len l2
  have hPR := PR_len (LN l) (LN l2)
  have e3 : g t 3 = nI (nLn l) := hX.2.2.2.1
  have e4 : g t2 3 = nI (nLn l2) := hX2.2.2.2.1
  have fin : ∀ (v : Nat) (x4 x5 : Int32) (u7 u8 : AV), v = T → wp d sc_Matcher_deltaSpace 21 [vR 27, vR t, vR t2, vI (nI v), vI x4, vI x5, vI (nI (nLn l + 1)), u7, u8] [] (wi H g) Q := by
    intro v x4 x5 u7 u8 hv
    subst hv
    have z : g t 3 < nI (nLn l + 1) := by rw [e3]; exact nI_lt (by omega) (by omega)
    exact f_Matcher_deltaSpace_21 (by omega) hF hT.1 (fun w => absurd z w) (fun w => absurd z w) (fun _ => k) (fun w => absurd z w) (fun w => absurd z w) (fun w => absurd z w) (fun w => absurd z w) (fun w => absurd z w) (fun w => absurd z w) (fun w => absurd z w)
  have y3 : ∀ a b : Nat, nI a + ((3 : Int32) + nI b) = nI (a + (3 + b)) := fun a b => by rw [show (3 : Int32) = nI 3 from rfl, nI_add, nI_add]
  intro m
  induction m with
  | zero =>
    intro c s i j u7 u8 hc hic hj hs
    have ec : c = nLn l := by omega
    have z : ¬ g t 3 < nI c := by rw [e3]; exact nI_nlt (by omega) (by omega)
    have z2 : nI c = g t 3 := by rw [e3, ec]
    rw [dl_nil (by omega)] at hs
    have gap : (decide (i < c) = true ∨ j < (LN l2).length) → cwp d 27 [vR t2, vI (nI j), vI (g t2 3)] (wi H g) (fun r1 H1 => wp d sc_Matcher_deltaSpace 107 [vR 27, vR t, vR t2, vI (nI s), vI (nI i), vI (nI j), vI (nI c), vI 1, vI (g t2 3)] (r1.toList ++ [vI 3, vI (nI s)]) H1 Q) := by
      intro hg
      rw [if_pos hg] at hs
      rw [e4]
      refine x_linesSpace hd hT2 hX2 (by omega) (Nat.le_refl _) ?_
      refine f_Matcher_deltaSpace_107 hF ?_
      rw [y3, nI_1 c, ec]
      exact fin _ _ _ _ _ (by rw [← hs, ← hLN2])
    refine f_Matcher_deltaSpace_21 (by omega) hF hT.1 (fun _ w => absurd z2 w) (fun _ _ => hT2.1) (fun w => absurd w z) (fun _ w => absurd z2 w) (fun _ w => absurd z2 w) (fun _ w => absurd z2 w) (fun _ w => absurd z2 w) (fun _ _ w => ?_) (fun _ _ w w2 => ?_) (fun _ _ w w2 => ?_)
    · rw [nI_ltI (by omega) (by omega)] at w
      exact gap (Or.inl (decide_eq_true w))
    · rw [nI_ltI (by omega) (by omega)] at w
      rw [e4, nI_leI (by omega) (by omega)] at w2
      rw [if_neg (fun q => by rcases q with q | q; exact w (of_decide_eq_true q); omega)] at hs
      rw [nI_1 c, ec]
      exact fin _ _ _ _ _ (by omega)
    · rw [e4, nI_leI (by omega) (by omega)] at w2
      exact gap (Or.inr (by omega))
  | succ m ih =>
    intro c s i j u7 u8 hc hic hj hs
    have hcl : c < nLn l := by omega
    have z : ¬ g t 3 < nI c := by rw [e3]; exact nI_nlt (by omega) (by omega)
    have z2 : ¬ nI c = g t 3 := by rw [e3, nI_eq (by omega) (by omega)]; omega
    have hgc : g 29 (nI c).toNatClampNeg = ptr (PR (LN l) (LN l2)) c := by rw [nI_clamp (by omega)]; exact hp c hcl
    rcases ps_get (ps := PR (LN l) (LN l2)) (i := c) (by omega) with h0 | ⟨p, h0⟩
    · have hm1 : g 29 (nI c).toNatClampNeg = -1 := by rw [hgc]; exact ptr_none h0
      rw [dl_none h0] at hs
      refine f_Matcher_deltaSpace_21 (by omega) hF hT.1 (fun _ _ => vp_in_nI (by omega) (by decide)) (fun _ w => absurd w z2) (fun w => absurd w z) (fun _ _ _ => ?_) (fun _ _ w => absurd hm1 w) (fun _ _ w => absurd hm1 w) (fun _ _ w => absurd hm1 w) (fun _ w => absurd w z2) (fun _ w => absurd w z2) (fun _ w => absurd w z2)
      rw [nI_1 c]
      exact ih (c + 1) s i j _ _ (by omega) (by omega) hj (by rw [decide_eq_true (show i < c + 1 by omega)]; exact hs)
    · have hpY := (PR_ok h0).1
      have hmp : g 29 (nI c).toNatClampNeg = nI p := by rw [hgc]; exact ptr_some h0
      have hm1 : ¬ g 29 (nI c).toNatClampNeg = -1 := by
        rw [hmp]
        intro e
        have := nI_pos' (n := p) (by omega)
        rw [e] at this
        exact absurd this (by decide)
      rw [dl_some h0] at hs
      have go : ∀ s' u7 u8, s' + dl (LN l2) ((PR (LN l) (LN l2)).drop (c + 1)) false (p + 1) = T → wp d sc_Matcher_deltaSpace 21 [vR 27, vR t, vR t2, vI (nI s'), vI (nI c + 1), vI (nI p + 1), vI (nI c + 1), u7, u8] [] (wi H g) Q := by
        intro s' u7 u8 hs'
        rw [nI_1, nI_1]
        exact ih (c + 1) s' (c + 1) (p + 1) _ _ (by omega) (by omega) (by omega) (by rw [decide_eq_false (show ¬ c + 1 < c + 1 by omega)]; exact hs')
      have gap : (decide (i < c) = true ∨ j < p) → cwp d 27 [vR t2, vI (nI j), vI (nI p)] (wi H g) (fun r1 H1 => wp d sc_Matcher_deltaSpace 107 [vR 27, vR t, vR t2, vI (nI s), vI (nI i), vI (nI j), vI (nI c), vI 0, vI (nI p)] (r1.toList ++ [vI 3, vI (nI s)]) H1 Q) := by
        intro hg
        rw [if_pos hg] at hs
        refine x_linesSpace hd hT2 hX2 (by omega) (by omega) ?_
        refine f_Matcher_deltaSpace_107 hF ?_
        rw [y3]
        exact go _ _ _ (by rw [← hs, Nat.add_assoc])
      refine f_Matcher_deltaSpace_21 (by omega) hF hT.1 (fun _ _ => vp_in_nI (by omega) (by decide)) (fun _ w => absurd w z2) (fun w => absurd w z) (fun _ _ w => absurd w hm1) (fun _ _ _ w => ?_) (fun _ _ _ w w2 => ?_) (fun _ _ _ w w2 => ?_) (fun _ w => absurd w z2) (fun _ w => absurd w z2) (fun _ w => absurd w z2)
      · rw [nI_ltI (by omega) (by omega)] at w
        rw [hmp]
        exact gap (Or.inl (decide_eq_true w))
      · rw [nI_ltI (by omega) (by omega)] at w
        rw [hmp, nI_leI (by omega) (by omega)] at w2
        rw [if_neg (fun q => by rcases q with q | q; exact w (of_decide_eq_true q); omega)] at hs
        rw [hmp]
        exact go _ _ _ (by omega)
      · rw [hmp, nI_leI (by omega) (by omega)] at w2
        rw [hmp]
        exact gap (Or.inr (by omega))
theorem x_deltaSpace (hd : 5 ≤ d) (hF : Fix H) (hT : TO H t) (hX : TX H g t l) (hT2 : TO H t2) (hX2 : TX H g t2 l2) (k : ∀ g' : Nat → Nat → Int32, (∀ a, a ≠ 28 → a ≠ 29 → g' a = g a) → Q (some (vI (nI (dsz l l2)))) (wi H g')) : cwp d 24 [vR 27, vR t, vR t2] (wi H g) Q := by
  have hA : kd H 29 = (1, 41) := hF.2.1 29 _ rfl
  refine e_Matcher_deltaSpace (by omega) (hF.c 27 22 rfl) (f_Matcher_deltaSpace_0 hF (x_match (by omega) hF hA hT hX hT2 hX2 (fun g1 hp hf => f_Matcher_deltaSpace_10 hF ?_)))
  have hr := o2A hF hA hf
  exact lm_delta (T := dsz l l2) (by omega) hF hT (hX.rf hT hr) hT2 (hX2.rf hT2 hr) hp (k g1 hf) (nLn l) 0 0 0 0 _ _ (by omega) (Nat.le_refl _) (Nat.zero_le _) (by rw [dsz_PR, Nat.zero_add]; rfl)
end DLT
