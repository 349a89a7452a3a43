/-! the class: links -/
def VF (g g' : Nat → Nat → Int32) : Prop := ∀ a, (a < 53 ∨ 57 < a) → g' a = g a
theorem VF.rf {g : Nat → Nat → Int32} : VF g g := fun _ _ => rfl
theorem VF.trans {g g' g'' : Nat → Nat → Int32} (h : VF g g') (h2 : VF g' g'') : VF g g'' := fun a q => by rw [h2 a q, h a q]
theorem LF.vf {g g' : Nat → Nat → Int32} (h : LF g g') : VF g g' := fun a ha => h a (by omega) (by omega)
theorem F9.vf {g g' : Nat → Nat → Int32} (h : F9 g g') : VF g g' := fun a ha => h.1 a (by omega) (by omega)
/-- the newest texts, as the viewer reads them -/
def VW (H : AH) (g : Nat → Nat → Int32) (R : List Rv) : Prop := R.length ≤ 24 ∧ ∀ p, p < 6 → g (41 + 2 * p) 1 = nI (pg R p).length ∧ gr H 26 p = 41 + 2 * p ∧ ∃ r t, gr H (42 + 2 * p) (pg R p).length = r ∧ (kd H r).1 = 25 ∧ g r 1 = zB (!thB R p) ∧ gr H r 0 = t ∧ TL H t ∧ TX H g t (ntx R p) ∧ (t = 23 ∨ 71 ≤ t)
theorem VW.vf {H : AH} {g g' : Nat → Nat → Int32} {R : List Rv} (hF : Fix H) (h : VW H g R) (hf : VF g g') : VW H g' R := by
  refine ⟨h.1, fun p hp => ?_⟩
  obtain ⟨a1, a2, r, t, b1, b2, b3, b4, b5, b6, b7⟩ := h.2 p hp
  have hr : r < 53 ∨ 57 < r := by
    rcases Nat.lt_or_ge r 53 with q | q
    · exact Or.inl q
    rcases Nat.lt_or_ge 57 r with q2 | q2
    · exact Or.inr q2
    exfalso
    have e : r = 53 ∨ r = 54 ∨ r = 55 ∨ r = 56 ∨ r = 57 := by omega
    rcases e with e | e | e | e | e
    · rw [e, hF.c 53 29 rfl] at b2; exact absurd b2 (by decide)
    · rw [e, hF.c 54 21 rfl] at b2; exact absurd b2 (by decide)
    · rw [e, hF.c 55 2 rfl] at b2; exact absurd b2 (by decide)
    · rw [e, hF.c 56 26 rfl] at b2; exact absurd b2 (by decide)
    · rw [e, hF.c 57 2 rfl] at b2; exact absurd b2 (by decide)
  exact ⟨by rw [hf _ (by omega)]; exact a1, a2, r, t, b1, b2, by rw [hf r hr]; exact b3, b4, b5, b6.of b5 (hf _ (by omega)) (hf _ (by omega)) (hf _ (by omega)), b7⟩
theorem CI.vw {H : AH} {g : Nat → Nat → Int32} {σ : SG} (h : CI H g σ) : VW H g σ.2.2.1 := ⟨h.pgc.1, fun _ hp => ⟨(h.pgc.2.2.2 _ hp).1, (h.pgc.2.2.2 _ hp).2.1.1, h.nw hp⟩⟩
theorem CI.lf {H : AH} {g g' : Nat → Nat → Int32} {σ : SG} (h : CI H g σ) (hf : LF g g') : CI H g' σ := by
  obtain ⟨hF, h20, ⟨l36, h36⟩, hr⟩ := h
  exact ⟨hF, h20.lf hF hF.t20 hf, ⟨l36, h36.lf hF hF.t36 hf⟩, hr.fr hF (fun a ha => hf a (by unfold KC at ha; omega) (by unfold KC at ha; omega))⟩
theorem MK_1 {p : Nat} (hp : p < 6) : ((1 : Int32) <<< (nI p &&& 31)) = MK (fun y => decide (y = p)) := by
  have h := MK_or (B := fun _ => false) hp
  rw [MK_0, Int32.zero_or] at h
  rw [h]
  exact MK_congr (fun y _ => by simp)
theorem mkv_orv : ∀ a b c e f h a' b' c' e' f' h' : Bool, mkv a b c e f h ||| mkv a' b' c' e' f' h' = mkv (a || a') (b || b') (c || c') (e || e') (f || f') (h || h') := by decide +kernel
theorem MK_orv {B B' : Nat → Bool} : MK B ||| MK B' = MK (fun y => B y || B' y) := mkv_orv (B 0) (B 1) (B 2) (B 3) (B 4) (B 5) (B' 0) (B' 1) (B' 2) (B' 3) (B' 4) (B' 5)
theorem sub65 {c : Int32} {x : Nat} : c - 65 = nI x ↔ c = nI (65 + x) := by
  constructor
  · intro h
    have e := Int32.sub_add_cancel c 65
    rw [h] at e
    rw [← e, Int32.add_comm]
    exact nI_65 x
  · intro h
    rw [h, ← nI_65, Int32.add_comm]
    exact Int32.add_sub_cancel _ _
theorem hk_yes {c : Int32} {p y : Nat} (hp : p < 6) (hy : y < 6) (h : c - 65 = nI p) : c = nI (65 + y) ↔ y = p := by
  rw [← sub65, h, nI_eq (by omega) (by omega)]
  omega
theorem ntx_0 {R : List Rv} {p : Nat} (hE : ∀ r, r ∈ R → r.1 < 6 ∧ (r.2.1 = true → r.2.2 = [])) (ht : thB R p = false) : ntx R p = [] := by
  unfold ntx rtx
  by_cases hl : (pg R p).length = 0
  · rw [if_pos hl]
  · rw [if_neg hl]
    have hg : (pg R p)[(pg R p).length - 1]? = some ((pg R p)[(pg R p).length - 1]'(by omega)) := List.getElem?_eq_getElem (by omega)
    have hm : (pg R p)[(pg R p).length - 1]'(by omega) ∈ pg R p := List.getElem_mem _
    generalize (pg R p)[(pg R p).length - 1]'(by omega) = e at hg hm
    have et : thB R p = !e.1 := by unfold thB; rw [getLast_eq, hg]
    rw [List.getD_eq_getElem?_getD, hg]
    obtain ⟨r, hr, rfl⟩ := List.mem_map.mp hm
    have hr2 := (List.mem_filter.mp hr).1
    rw [ht] at et
    exact (hE r hr2).2 (by simpa using et.symm)
theorem hkT_nil (x : Nat) : hkT [] x = false := by
  have e : LN [] = [[]] := by decide +kernel
  unfold hkT
  rw [e]
  show (hkB [] x || false) = false
  unfold hkB
  rw [if_neg (fun z => by have := z.1; simp at this)]
  rfl
theorem hkT_bk {R : List Rv} {p y : Nat} (hE : ∀ r, r ∈ R → r.1 < 6 ∧ (r.2.1 = true → r.2.2 = [])) : hkT (ntx R y) p = bkB R p y := by
  unfold bkB
  cases ht : thB R y
  · rw [ntx_0 hE ht, hkT_nil]; rfl
  · rw [Bool.true_and]; rfl
theorem hkM_ntx {R : List Rv} {p : Nat} (hE : ∀ r, r ∈ R → r.1 < 6 ∧ (r.2.1 = true → r.2.2 = [])) : hkM R p = MK (hkT (ntx R p)) := by
  rw [hkM_eq]
  exact MK_congr (fun y _ => (hkT_bk hE).symm)
section LKS
variable {d : Nat} {Q : Option AV → AH → Prop} {H : AH} {g g' : Nat → Nat → Int32} {x c : Int32} {w : Ln} {R : List Rv} {p : Nat} {σ : SG}
theorem x_linksOfLine (hd : 3 ≤ d) (hF : Fix H) (h : LC g w) (k : Q (some (vI (MK (hkB w)))) (wi H g)) : cwp d 85 [vR 53] (wi H g) Q := by
  have h40 := h.1
  refine e_Viewer_linksOfLine (by omega) (hF.c 53 29 rfl) (f_Viewer_linksOfLine_0 hF (x_isInclude (by omega) hF h (fun r hr => ?_)))
  rcases hr with ⟨hi, rfl⟩ | ⟨hi, rfl⟩
  · have hl : 2 < w.length := by have := hi.1; omega
    have e2 : g 55 2 = ch w 2 := h.2.2.2 2 hl
    have o2 : okc (ch w 2) := h.2.1 2 hl
    refine f_Viewer_linksOfLine_7 (by omega) hF (fun _ => by rw [e2]; exact o2) (fun z => absurd z (by decide)) (fun _ => ?_)
    rw [e2]
    refine x_pageBit (by omega) (fun hno => f_Viewer_linksOfLine_20 hF ?_) (fun p hp e => f_Viewer_linksOfLine_20 hF ?_)
    · have em : MK (hkB w) = 0 := by
        rw [← MK_0]
        refine MK_congr (fun y hy => ?_)
        unfold hkB
        rw [if_pos hi]
        exact decide_eq_false (fun z => hno y hy (sub65.mpr z))
      rw [em] at k
      exact k
    · have em : MK (hkB w) = (1 : Int32) <<< (nI p &&& 31) := by
        rw [MK_1 hp]
        refine MK_congr (fun y hy => ?_)
        unfold hkB
        rw [if_pos hi]
        exact decide_eq_decide.mpr (hk_yes hp hy e)
      rw [em] at k
      exact k
  · refine f_Viewer_linksOfLine_7 (by omega) hF (fun z => absurd rfl z) (fun _ => ?_) (fun z => absurd rfl z)
    have loop : ∀ m i, i + m = w.length → wp (d - 1) sc_Viewer_linksOfLine 25 [vR 53, vI (MK (fun y => (List.range i).any (hkP w y))), vI (nI i)] [] (wi H g) Q := by
      intro m
      induction m with
      | zero =>
        intro i him
        have e : i = w.length := by omega
        subst e
        refine f_Viewer_linksOfLine_25 (by omega) hF (fun _ => ?_) (fun z => absurd (by rw [h.2.2.1]; exact nI_le (Nat.le_refl _) (by omega)) z)
        have em : MK (hkB w) = MK (fun y => (List.range w.length).any (hkP w y)) := MK_congr (fun y _ => by unfold hkB; rw [if_neg hi])
        rw [em] at k
        exact k
      | succ m ih =>
        intro i him
        have z : ¬ g 54 1 ≤ nI i := by rw [h.2.2.1]; exact nI_ge (by omega) (by omega)
        have e2 : nI i + 2 = nI (i + 2) := nI_add i 2
        refine f_Viewer_linksOfLine_25 (by omega) hF (fun q => absurd q z) (fun _ => x_isLink (by omega) hF h (by omega) (fun r hr => ?_))
        have h2 := ih (i + 1) (by omega)
        rcases hr with ⟨hr, rfl⟩ | ⟨hr, rfl⟩
        · have hl5 := hr.1
          have eg : g 55 (nI i + 2).toNatClampNeg = ch w (i + 2) := by rw [e2, nI_clamp (by omega)]; exact h.2.2.2 _ (by omega)
          have oc : okc (ch w (i + 2)) := h.2.1 (i + 2) (by omega)
          refine f_Viewer_linksOfLine_44 (by omega) hF (fun _ => by rw [e2]; exact vp_in_nI (by omega) (by decide)) (fun _ => by rw [eg]; exact oc) (fun q => absurd q (by decide)) (fun _ => ?_)
          rw [eg]
          refine x_pageBit (by omega) (fun hno => f_Viewer_linksOfLine_61 hF ?_) (fun p hp e => f_Viewer_linksOfLine_61 hF ?_)
          · rw [Int32.or_zero, nI_1]
            rw [MK_congr (B' := fun y => (List.range i).any (hkP w y)) (fun y hy => by rw [any_s, show hkP w y i = false from decide_eq_false (fun z => hno y hy (sub65.mpr z.2)), Bool.or_false])] at h2
            exact h2
          · rw [MK_or hp, nI_1]
            rw [MK_congr (B' := fun y => (List.range i).any (hkP w y) || decide (y = p)) (fun y hy => by rw [any_s, show hkP w y i = decide (y = p) from decide_eq_decide.mpr ⟨fun z => (hk_yes hp hy e).mp z.2, fun z => ⟨hr, (hk_yes hp hy e).mpr z⟩⟩])] at h2
            exact h2
        · refine f_Viewer_linksOfLine_44 (by omega) hF (fun q => absurd rfl q) (fun q => absurd rfl q) (fun _ => ?_) (fun q => absurd rfl q)
          rw [nI_1]
          rw [MK_congr (B' := fun y => (List.range i).any (hkP w y)) (fun y hy => by rw [any_s, show hkP w y i = false from decide_eq_false (fun z => hr z.1), Bool.or_false])] at h2
          exact h2
    have h3 := loop w.length 0 (by omega)
    rw [MK_congr (B' := fun _ => false) (fun y _ => by simp), MK_0] at h3
    exact h3
theorem x_linksOf (hd : 4 ≤ d) (hF : Fix H) (hV : VW H g R) (hp : p < 6) (k : ∀ g', LF g g' → Q (some (vI (MK (hkT (ntx R p))))) (wi H g')) : cwp d 81 [vR 53, vI (nI p)] (wi H g) Q := by
  obtain ⟨a1, a2, r, t, b1, b2, b3, b4, b5, b6, b7⟩ := hV.2 p hp
  obtain ⟨c1, c2, c3⟩ := fx_pg hF hp
  have h24 := hV.1
  have hle := pg_le R p
  have ep : gr H 26 (nI p).toNatClampNeg = 41 + 2 * p := by rw [nI_clamp (by omega)]; exact a2
  have er : gr H (gr H (gr H 26 (nI p).toNatClampNeg) 0) ((g (gr H 26 (nI p).toNatClampNeg) 1).toNatClampNeg) = r := by rw [ep, c2, a1, nI_clamp (by omega)]; exact b1
  refine e_Viewer_linksOf (by omega) (hF.c 53 29 rfl) (f_Viewer_linksOf_0 (by omega) hF (vp_in_nI hp (by decide)) (by rw [ep]; exact c1) (by rw [ep, c2, c3]) (by rw [ep, c2, c3, a1]; exact vp_in_nI (by show _ < 25; omega) (by decide)) (by rw [er]; exact b2) ?_)
  rw [er, b4]
  generalize ntx R p = l at *
  have hn := nLn_le l
  have hl := b6.2.1
  have loop : ∀ m j g1, j + m = nLn l → LF g g1 → wp (d - 1) sc_Viewer_linksOf 18 [vR 53, vI (nI p), vR t, vI (MK (fun y => ((LN l).take j).any (fun w => hkB w y))), vI (nI j)] [] (wi H g1) Q := by
    intro m
    induction m with
    | zero =>
      intro j g1 hj hf
      have hX := b6.lf hF b5 hf
      have e : j = nLn l := by omega
      refine f_Viewer_linksOf_18 (by omega) hF b5.1.1 (fun _ => ?_) (fun z => absurd (by rw [hX.2.2.2.1]; exact nI_le (by omega) (by omega)) z)
      rw [e, ← LN_len, List.take_length]
      exact k g1 hf
    | succ m ih =>
      intro j g1 hj hf
      have hX := b6.lf hF b5 hf
      have hlt : j < nLn l := by omega
      refine f_Viewer_linksOf_18 (by omega) hF b5.1.1 (fun z => absurd z (by rw [hX.2.2.2.1]; exact nI_ge (by omega) (by omega))) (fun _ => x_take (by omega) hF b5 hX hlt ⟨36, by decide, rfl⟩ (fun g2 f2 w2 => f_Viewer_linksOf_39 hF (x_linksOfLine (by omega) hF w2 (f_Viewer_linksOf_44 hF ?_))))
      have h3 := ih (j + 1) g2 (by omega) (hf.trans f2)
      rw [MK_congr (B' := fun y => ((LN l).take j).any (fun w => hkB w y) || hkB (lnI l j) y) (fun y _ => by
        rw [List.take_add_one, LN_get hlt, List.any_append]
        simp [lnI])] at h3
      rw [fil_36, MK_orv, nI_1]
      exact h3
  have h3 := loop (nLn l) 0 g (by omega) LF.rf
  rw [MK_congr (B' := fun _ => false) (fun y _ => by simp), MK_0] at h3
  exact h3
theorem x_links (hd : 6 ≤ d) (h : CI H g σ) (k : ∀ g', CI H g' σ → Q (some (vI (sp_links σ x))) (wi H g')) : cwp d 103 [vR 19, vI x] (wi H g) Q := by
  have hF := h.1
  unfold sp_links at k
  refine e_P_links (by omega) (hF.c 19 30 rfl) (f_P_links_0 hF (x_isUsable (by omega) h (fun r hr => ?_)))
  rcases hr with ⟨⟨h1, p, hp, rfl⟩, rfl⟩ | ⟨hr, rfl⟩
  · rw [if_neg h1, pgN_some hp] at k
    refine f_P_links_5 hF (fun z => absurd z (by decide)) (fun _ => x_linksOf (by omega) hF h.vw hp (fun g' hf => f_P_links_16 hF ?_))
    rw [← hkM_ntx h.pgc.2.2.1]
    exact k g' (h.lf hf)
  · refine f_P_links_5 hF (fun _ => ?_) (fun z => absurd rfl z)
    split at k
    · exact k g h
    · rename_i hw
      rw [pgN_none (fun p hp e => hr ⟨hw, p, hp, e⟩)] at k
      exact k g h
theorem x_linking (hd : 5 ≤ d) (hF : Fix H) (hV : VW H g R) (hE : ∀ r, r ∈ R → r.1 < 6 ∧ (r.2.1 = true → r.2.2 = [])) (hp : p < 6) (k : ∀ g', LF g g' → Q (some (vI (MK (bkB R p)))) (wi H g')) : cwp d 82 [vR 53, vI (nI p)] (wi H g) Q := by
  refine e_Viewer_pagesLinkingTo (by omega) (hF.c 53 29 rfl) (f_Viewer_pagesLinkingTo_0 hF ?_)
  have loop : ∀ m y g1, y + m = 6 → LF g g1 → wp (d - 1) sc_Viewer_pagesLinkingTo 4 [vR 53, vI (nI p), vI (MK (fun z => decide (z < y) && bkB R p z)), vI (nI y)] [] (wi H g1) Q := by
    intro m
    induction m with
    | zero =>
      intro y g1 hy hf
      have e : y = 6 := by omega
      subst e
      refine f_Viewer_pagesLinkingTo_4 hF (fun _ => ?_) (fun q => absurd (by decide) q)
      rw [MK_congr (B' := bkB R p) (fun y hy => by rw [decide_eq_true hy, Bool.true_and])]
      exact k g1 hf
    | succ m ih =>
      intro y g1 hy hf
      have hy6 : y < 6 := by omega
      refine f_Viewer_pagesLinkingTo_4 hF (fun q => absurd q (by rw [show (6 : Int32) = nI 6 from rfl]; exact nI_ge hy6 (by decide))) (fun _ => x_linksOf (by omega) hF (hV.vf hF hf.vf) hy6 (fun g2 f2 => ?_))
      have h2 := ih (y + 1) g2 (by omega) (hf.trans f2)
      refine f_Viewer_pagesLinkingTo_15 hF (fun q => ?_) (fun q => ?_)
      · rw [MK_and hp, hkT_bk hE] at q
        rw [MK_congr (B' := fun z => decide (z < y) && bkB R p z) (fun z _ => by
          by_cases e : z = y
          · subst e
            simp [q]
          · rw [show decide (z < y + 1) = decide (z < y) from decide_eq_decide.mpr (by omega)])] at h2
        rw [nI_1]
        exact h2
      · rw [MK_and hp, hkT_bk hE] at q
        have q2 : bkB R p y = true := by simpa using q
        rw [nI_1, MK_or hy6]
        rw [MK_congr (B' := fun z => (decide (z < y) && bkB R p z) || decide (z = y)) (fun z _ => by
          by_cases e : z = y
          · subst e
            simp [q2]
          · rw [show decide (z = y) = false from decide_eq_false e, Bool.or_false, show decide (z < y + 1) = decide (z < y) from decide_eq_decide.mpr (by omega)])] at h2
        exact h2
  have h3 := loop 6 0 g (by omega) LF.rf
  rw [MK_congr (B' := fun _ => false) (fun y _ => by simp), MK_0] at h3
  exact h3
theorem x_back (hd : 7 ≤ d) (h : CI H g σ) (k : ∀ g', CI H g' σ → Q (some (vI (sp_back σ x))) (wi H g')) : cwp d 104 [vR 19, vI x] (wi H g) Q := by
  have hF := h.1
  unfold sp_back at k
  refine e_P_backlinks (by omega) (hF.c 19 30 rfl) (f_P_backlinks_0 hF (x_isUsable (by omega) h (fun r hr => ?_)))
  rcases hr with ⟨⟨h1, p, hp, rfl⟩, rfl⟩ | ⟨hr, rfl⟩
  · rw [if_neg h1, pgN_some hp] at k
    exact f_P_backlinks_5 hF (fun z => absurd z (by decide)) (fun _ => x_linking (by omega) hF h.vw h.pgc.2.2.1 hp (fun g' hf => f_P_backlinks_16 hF (k g' (h.lf hf))))
  · refine f_P_backlinks_5 hF (fun _ => ?_) (fun z => absurd rfl z)
    split at k
    · exact k g h
    · rename_i hw
      rw [pgN_none (fun p hp e => hr ⟨hw, p, hp, e⟩)] at k
      exact k g h
end LKS
