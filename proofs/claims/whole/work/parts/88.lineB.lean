/-! the class: what a line is -/
section LINEB
variable {d : Nat} {Q : Option AV → AH → Prop} {H : AH} {g g' : Nat → Nat → Int32} {x c : Int32} {w : Ln}
theorem x_isItem (hd : 2 ≤ d) (hF : Fix H) (h : LC g w) (k : ∀ r, bI (1 < w.length ∧ ch w 0 = 42 ∧ ch w 1 = 32) r → Q (some (vI r)) (wi H g)) : cwp d 14 [vR 54] (wi H g) Q := by
  refine e_Line_isItem (by omega) (hF.c 54 21 rfl) (f_Line_isItem_0 hF (x_has (j := 0) (by omega) hF h (by decide) (fun r hr => ?_)))
  rcases hr with ⟨hr, rfl⟩ | ⟨hr, rfl⟩
  · refine f_Line_isItem_7 hF (fun z => absurd z (by decide)) (fun _ => x_has (j := 1) (by omega) hF h (by decide) (fun r hr2 => ?_))
    rcases hr2 with ⟨hr2, rfl⟩ | ⟨hr2, rfl⟩
    · exact f_Line_isItem_17 hF (fun z => absurd z (by decide)) (fun _ => k _ (Or.inl ⟨⟨hr2.1, hr.2, hr2.2⟩, rfl⟩))
    · exact f_Line_isItem_17 hF (fun _ => k _ (Or.inr ⟨fun z => hr2 ⟨z.1, z.2.2⟩, rfl⟩)) (fun z => absurd rfl z)
  · exact f_Line_isItem_7 hF (fun _ => k _ (Or.inr ⟨fun z => hr ⟨by omega, z.2.1⟩, rfl⟩)) (fun z => absurd rfl z)
theorem x_heading (hd : 2 ≤ d) (hF : Fix H) (h : LC g w) (k : Q (some (vI (nI (lvl w)))) (wi H g)) : cwp d 15 [vR 54] (wi H g) Q := by
  refine e_Line_headingLevel (by omega) (hF.c 54 21 rfl) (f_Line_headingLevel_0 hF ?_)
  have stp : ∀ v, v < 3 → (v < w.length ∧ ch w v = 61 → wp (d - 1) sc_Line_headingLevel 2 [vR 54, vI (nI (v + 1))] [] (wi H g) Q) → (¬ (v < w.length ∧ ch w v = 61) → Q (some (vI (nI v))) (wi H g)) → wp (d - 1) sc_Line_headingLevel 2 [vR 54, vI (nI v)] [] (wi H g) Q := fun v hv ky kn => by
    refine f_Line_headingLevel_2 hF (fun z => absurd z (by rw [show (3 : Int32) = nI 3 from rfl]; exact nI_ge hv (by decide))) (fun _ => x_has (j := v) (by omega) hF h (by omega) (fun r hr => ?_))
    rcases hr with ⟨hr, rfl⟩ | ⟨hr, rfl⟩
    · exact f_Line_headingLevel_14 hF (fun z => absurd z (by decide)) (fun _ => by rw [nI_1]; exact ky hr)
    · exact f_Line_headingLevel_14 hF (fun _ => kn hr) (fun z => absurd rfl z)
  unfold lvl at k
  refine stp 0 (by decide) (fun c0 => stp 1 (by decide) (fun c1 => stp 2 (by decide) (fun c2 => ?_) (fun c2 => ?_)) (fun c1 => ?_)) (fun c0 => ?_)
  · rw [if_pos c0, if_pos c1, if_pos c2] at k
    exact f_Line_headingLevel_2 hF (fun _ => k) (fun z => absurd (by decide) z)
  · rw [if_pos c0, if_pos c1, if_neg c2] at k
    exact k
  · rw [if_pos c0, if_neg c1] at k
    exact k
  · rw [if_neg c0] at k
    exact k
theorem x_isInclude (hd : 2 ≤ d) (hF : Fix H) (h : LC g w) (k : ∀ r, bI (inc w) r → Q (some (vI r)) (wi H g)) : cwp d 16 [vR 54] (wi H g) Q := by
  have h40 := h.1
  have e5 : g 54 1 = 5 ↔ w.length = 5 := by rw [h.2.2.1, show (5 : Int32) = nI 5 from rfl, nI_eq (by omega) (by decide)]
  have e6 : g 54 1 = 6 ↔ w.length = 6 := by rw [h.2.2.1, show (6 : Int32) = nI 6 from rfl, nI_eq (by omega) (by decide)]
  have no : ¬ inc w → Q (some (vI 0)) (wi H g) := fun z => k _ (Or.inr ⟨z, rfl⟩)
  have go : (w.length = 5 ∨ w.length = 6) → cwp (d - 1) 13 [vR 54, vI 0, vI 123] (wi H g) (fun r1 H1 => wp (d - 1) sc_Line_isInclude 24 [vR 54] (r1.toList ++ []) H1 Q) := fun hl => by
    refine x_hasTwo (j := 0) (by omega) hF h (by decide) (fun r hr => ?_)
    rcases hr with ⟨hr, rfl⟩ | ⟨hr, rfl⟩
    · refine f_Line_isInclude_24 hF (fun z => absurd z (by decide)) (fun _ => x_hasLetter (j := 2) (by omega) hF h (by decide) (fun r hr2 => ?_))
      rcases hr2 with ⟨hr2, rfl⟩ | ⟨hr2, rfl⟩
      · refine f_Line_isInclude_32 hF (fun z => absurd z (by decide)) (fun _ => ?_)
        rw [h.2.2.1, show (2 : Int32) = nI 2 from rfl, nI_sub (by omega)]
        refine x_hasTwo (j := w.length - 2) (by omega) hF h (by omega) (fun r hr3 => ?_)
        have e1 : w.length - 2 + 1 = w.length - 1 := by omega
        rcases hr3 with ⟨hr3, rfl⟩ | ⟨hr3, rfl⟩
        · refine f_Line_isInclude_47 hF (fun z => absurd z (by decide)) (fun _ => k _ (Or.inl ⟨⟨hl, hr.2.1, hr.2.2, hr2.2, hr3.2.1, ?_⟩, rfl⟩))
          have := hr3.2.2
          rw [e1] at this
          exact this
        · refine f_Line_isInclude_47 hF (fun _ => no (fun z => hr3 ⟨by omega, z.2.2.2.2.1, ?_⟩)) (fun z => absurd rfl z)
          rw [e1]
          exact z.2.2.2.2.2
      · exact f_Line_isInclude_32 hF (fun _ => no (fun z => hr2 ⟨by omega, z.2.2.2.1⟩)) (fun z => absurd rfl z)
    · exact f_Line_isInclude_24 hF (fun _ => no (fun z => hr ⟨by omega, z.2.1, z.2.2.1⟩)) (fun z => absurd rfl z)
  refine e_Line_isInclude (by omega) (hF.c 54 21 rfl) (f_Line_isInclude_0 hF (fun q => go (Or.inl (e5.mp q))) (fun q q2 => no (fun z => ?_)) (fun _ q => go (Or.inr (e6.mp q))))
  rcases z.1 with z1 | z1
  · exact q (e5.mpr z1)
  · exact q2 (e6.mpr z1)
theorem x_isLink {j : Nat} (hd : 2 ≤ d) (hF : Fix H) (h : LC g w) (hj : j ≤ 40) (k : ∀ r, bI (lkd w j) r → Q (some (vI r)) (wi H g)) : cwp d 20 [vR 54, vI (nI j)] (wi H g) Q := by
  have no : ¬ lkd w j → Q (some (vI 0)) (wi H g) := fun z => k _ (Or.inr ⟨z, rfl⟩)
  refine e_Line_isLink (by omega) (hF.c 54 21 rfl) (f_Line_isLink_0 hF (x_hasTwo (by omega) hF h (by omega) (fun r hr => ?_)))
  rcases hr with ⟨hr, rfl⟩ | ⟨hr, rfl⟩
  · refine f_Line_isLink_7 hF (fun z => absurd z (by decide)) (fun _ => ?_)
    rw [show nI j + 2 = nI (j + 2) from nI_add j 2]
    refine x_hasLetter (by omega) hF h (by omega) (fun r hr2 => ?_)
    rcases hr2 with ⟨hr2, rfl⟩ | ⟨hr2, rfl⟩
    · refine f_Line_isLink_17 hF (fun z => absurd z (by decide)) (fun _ => ?_)
      rw [show nI j + 3 = nI (j + 3) from nI_add j 3]
      refine x_hasTwo (by omega) hF h (by omega) (fun r hr3 => ?_)
      rcases hr3 with ⟨hr3, rfl⟩ | ⟨hr3, rfl⟩
      · exact f_Line_isLink_29 hF (fun z => absurd z (by decide)) (fun _ => k _ (Or.inl ⟨⟨by have := hr3.1; omega, hr.2.1, hr.2.2, hr2.2, hr3.2.1, hr3.2.2⟩, rfl⟩))
      · exact f_Line_isLink_29 hF (fun _ => no (fun z => hr3 ⟨by have := z.1; omega, z.2.2.2.2.1, z.2.2.2.2.2⟩)) (fun z => absurd rfl z)
    · exact f_Line_isLink_17 hF (fun _ => no (fun z => hr2 ⟨by have := z.1; omega, z.2.2.2.1⟩)) (fun z => absurd rfl z)
  · exact f_Line_isLink_7 hF (fun _ => no (fun z => hr ⟨by have := z.1; omega, z.2.1, z.2.2.1⟩)) (fun z => absurd rfl z)
theorem x_filler (hd : 1 ≤ d) (hF : Fix H) (h : LC g w) (hl : w.length = 5 ∨ w.length = 6) (k : Q (some (vI (if w.length = 6 then ch w 3 else 36))) (wi H g)) : cwp d 19 [vR 54] (wi H g) Q := by
  obtain ⟨h1, h2, h3, h4⟩ := h
  have el : g 54 1 ≤ 5 ↔ w.length ≤ 5 := by rw [h3, show (5 : Int32) = nI 5 from rfl, nI_leI (by omega) (by decide)]
  have e3 : g 55 3 = ch w 3 := h4 3 (by omega)
  refine e_Line_includedFiller (by omega) (hF.c 54 21 rfl) (f_Line_includedFiller_0 hF (fun _ => by rw [e3]; exact h2 3 (by omega)) (fun q => ?_) (fun q => ?_))
  · rw [el] at q
    rw [if_neg (by omega)] at k
    exact k
  · rw [el] at q
    rw [if_pos (by omega)] at k
    rw [e3]
    exact k
end LINEB
