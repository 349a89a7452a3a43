/-! the class: a line is looked at -/
def LC (g : Nat → Nat → Int32) (w : Ln) : Prop := w.length ≤ 40 ∧ okT w ∧ g 54 1 = nI w.length ∧ ∀ j, j < w.length → g 55 j = ch w j
/-- only the line has changed -/
def LF (g g' : Nat → Nat → Int32) : Prop := ∀ a, a ≠ 54 → a ≠ 55 → g' a = g a
theorem LF.rf {g : Nat → Nat → Int32} : LF g g := fun _ _ _ => rfl
theorem LF.trans {g g' g'' : Nat → Nat → Int32} (h : LF g g') (h2 : LF g' g'') : LF g g'' := fun a a1 a2 => by rw [h2 a a1 a2, h a a1 a2]
/-- the class's filler -/
def fCh (c : Int32) : Int32 := if c < 0 then 36 else c
theorem fl_fCh (c : Int32) (w : Ln) : fl c w = fil (fCh c) w := rfl
theorem fil_ch {c : Int32} {w : Ln} {k : Nat} (h : k < w.length) : ch (fil c w) k = if ch w k = 36 then c else ch w k := by
  unfold fil ch
  rw [List.getD_eq_getElem?_getD, List.getD_eq_getElem?_getD, List.getElem?_map, List.getElem?_eq_getElem h]
  rfl
theorem fil_len (c : Int32) (w : Ln) : (fil c w).length = w.length := by simp [fil]
section LINE
variable {d : Nat} {Q : Option AV → AH → Prop} {H : AH} {g g' : Nat → Nat → Int32} {x c : Int32} {t : Nat} {l : Tx} {w : Ln}
theorem TX.lf (h : TX H g t l) (hF : Fix H) (hL : TL H t) (hf : LF g g') : TX H g' t l := by
  have n54 : ∀ b, b ≤ 2 → t + b ≠ 54 := hL.nc (by rw [hF.c 54 21 rfl]; decide) (by rw [hF.c 54 21 rfl]; decide) (by rw [hF.c 54 21 rfl]; decide)
  have n55 : ∀ b, b ≤ 2 → t + b ≠ 55 := fun b hb e => by
    have eb : b = 0 ∨ b = 1 ∨ b = 2 := by omega
    obtain ⟨k1, k2, k3⟩ := hL.k
    have k55 := hF.c 55 2 rfl
    rcases eb with rfl | rfl | rfl
    · rw [show t = 55 from e, k55] at k1; simp at k1
    · have e54 : t = 54 := by omega
      rw [e54, hF.c 54 21 rfl] at k1; simp at k1
    · rw [e, ] at k3; rw [k3] at k55; simp at k55
  have z : ∀ b, b ≤ 2 → g' (t + b) = g (t + b) := fun b hb => hf _ (n54 b hb) (n55 b hb)
  exact h.of hL (z 0 (by decide)) (z 1 (by decide)) (z 2 (by decide))
theorem x_take {i : Nat} (hd : 2 ≤ d) (hF : Fix H) (hL : TL H t) (hX : TX H g t l) (hi : i < nLn l) (hc : okc c) (k : ∀ g', LF g g' → LC g' (fil c (lnI l i)) → Q none (wi H g')) : cwp d 8 [vR 54, vR t, vI (nI i), vI c] (wi H g) Q := by
  have hl := hX.2.1
  have hn := nLn_le l
  obtain ⟨e1, e2, -⟩ := eLn_spec hi
  have hlen := lnI_len l i
  have v1 : ∀ j, j ≤ 41 → vp_in (nI j) (kd H (gr H t 1)).2 := fun j hj => by rw [hL.1.2.2]; exact vp_in_nI (by show _ < 42; omega) (by decide)
  have es : g (gr H t 1) (nI i).toNatClampNeg = nI (sLn l i) := by rw [nI_clamp (by omega)]; exact hX.2.2.2.2.2.1 i hi
  have es1 : g (gr H t 1) (nI i + 1).toNatClampNeg - 1 = nI (eLn l i) := by rw [nI_1, nI_clamp (by omega), hX.st (by omega), po_s hi, nI_sub1]
  refine e_Line_take (by omega) (hF.c 54 21 rfl) (f_Line_take_0 (by omega) hF hL.1.1 (by rw [hL.1.2.2]) (v1 i (by omega)) (by rw [nI_1]; exact v1 _ (by omega)) ?_)
  rw [es, es1, nI_sub e1]
  have loop : ∀ (m q : Nat) (g1 : Nat → Nat → Int32) (u : AV), q + m = eLn l i - sLn l i → LF g g1 → g1 54 1 = nI (eLn l i - sLn l i) → (∀ j, j < q → g1 55 j = ch (fil c (lnI l i)) j) → wp (d - 1) sc_Line_take 19 [vR 54, vR t, vI (nI i), vI c, vI (nI (sLn l i)), vI (nI q), u] [] (wi H g1) Q := by
    intro m
    induction m with
    | zero =>
      intro q g1 u hq hf h54 h55
      have z : g1 54 1 ≤ nI q := by rw [h54]; exact nI_le (by omega) (by omega)
      refine f_Line_take_19 (by omega) hF (fun w => absurd z w) (fun w => absurd z w) (fun w => absurd z w) (fun w => absurd z w) (fun w => absurd z w) (fun w => absurd z w) (fun _ => k g1 hf ⟨by rw [fil_len, hlen]; omega, fun j hj => ?_, by rw [fil_len, hlen]; exact h54, fun j hj => h55 j (by rw [fil_len] at hj; omega)⟩) (fun w => absurd z w) (fun w => absurd z w)
      rw [fil_len] at hj
      have : tf (fil c (lnI l i)) j = ch (fil c (lnI l i)) j := rfl
      rw [this, fil_ch hj]
      split
      · exact hc
      · rw [lnI_ch (by omega)]; exact hX.1 _ (by omega)
    | succ m ih =>
      intro q g1 u hq hf h54 h55
      have z : ¬ g1 54 1 ≤ nI q := by rw [h54]; exact nI_ge (by omega) (by omega)
      have hX1 := hX.lf hF hL hf
      have ec : g1 (gr H t 0) (nI (sLn l i) + nI q).toNatClampNeg = tf l (sLn l i + q) := by rw [nI_add, nI_clamp (by omega)]; exact hX1.2.2.2.2.1 _ (by omega)
      have eq : ch (lnI l i) q = tf l (sLn l i + q) := lnI_ch (by omega)
      have cq : (nI q).toNatClampNeg = q := nI_clamp (by omega)
      have vq : vp_in (nI q) 40 := vp_in_nI (by omega) (by decide)
      have oq : okc (tf l (sLn l i + q)) := hX.1 _ (by omega)
      have nxt : ∀ (V : Int32) (u : AV), V = ch (fil c (lnI l i)) q → wp (d - 1) sc_Line_take 19 [vR 54, vR t, vI (nI i), vI c, vI (nI (sLn l i)), vI (nI q + 1), u] [] (wi H (sm_u2 g1 55 (nI q).toNatClampNeg V)) Q := fun V u hV => by
        rw [nI_1, cq]
        refine ih (q + 1) _ u (by omega) (hf.trans (fun a _ a2 => u2_na a2)) (by rw [u2_na (by decide)]; exact h54) (fun j hj => ?_)
        by_cases e : j = q
        · subst e; rw [u2_self]; exact hV
        · rw [u2_ne (Or.inr e)]; exact h55 j (by omega)
      refine f_Line_take_19 (by omega) hF (fun _ => hL.1.1) (fun _ => by rw [hL.1.2.1]) (fun _ => by rw [hL.1.2.1, nI_add]; exact vp_in_nI (by show _ < 40; omega) (by decide)) (fun _ _ => vq) (fun _ _ => vq) (fun _ => by rw [ec]; exact oq) (fun w => absurd w z) (fun _ w => ?_) (fun _ w => ?_)
      · rw [ec] at w ⊢
        rw [nar_ok oq]
        exact nxt _ _ (by rw [fil_ch (by omega), eq, if_neg w])
      · rw [ec] at w ⊢
        rw [nar_ok hc]
        exact nxt _ _ (by rw [fil_ch (by omega), eq, if_pos w])
  exact loop (eLn l i - sLn l i) 0 _ _ (by omega) (fun a a1 _ => u2_na a1) u2_self (fun j hj => by omega)
theorem x_mark {m : Int32} (hd : 2 ≤ d) (hF : Fix H) (h : LC g w) (hw : 2 < w.length) (hm : okc m) (k : ∀ g', LF g g' → LC g' [m, ch w 2] → Q none (wi H g')) : cwp d 9 [vR 54, vI m] (wi H g) Q := by
  obtain ⟨h1, h2, h3, h4⟩ := h
  have e2 : g 55 2 = ch w 2 := h4 2 hw
  have o2 : okc (ch w 2) := h2 2 hw
  refine e_Line_becomeMark (by omega) (hF.c 54 21 rfl) (f_Line_becomeMark_0 (by omega) hF (by rw [e2]; exact o2) ?_)
  rw [e2, nar_ok hm, nar_ok o2]
  refine k _ (fun a a1 a2 => by rw [u2_na a1, u2_na a2, u2_na a2]) ⟨show 2 ≤ 40 by decide, fun j hj => ?_, by rw [u2_self]; rfl, fun j hj => ?_⟩
  · have hj2 : j = 0 ∨ j = 1 := by simp at hj; omega
    rcases hj2 with rfl | rfl
    · exact hm
    · exact o2
  · have hj2 : j = 0 ∨ j = 1 := by simp at hj; omega
    rcases hj2 with rfl | rfl
    · rw [u2_na (by decide), u2_ne (Or.inr (by decide)), u2_self]; rfl
    · rw [u2_na (by decide), u2_self]; rfl
theorem x_has {j : Nat} (hd : 1 ≤ d) (hF : Fix H) (h : LC g w) (hj : j ≤ 50) (k : ∀ r, bI (j < w.length ∧ ch w j = c) r → Q (some (vI r)) (wi H g)) : cwp d 12 [vR 54, vI (nI j), vI c] (wi H g) Q := by
  obtain ⟨h1, h2, h3, h4⟩ := h
  have el : g 54 1 ≤ nI j ↔ w.length ≤ j := by rw [h3, nI_leI (by omega) (by omega)]
  have cj : (nI j).toNatClampNeg = j := nI_clamp (by omega)
  refine e_Line_has (by omega) (hF.c 54 21 rfl) (f_Line_has_0 hF (fun q => ?_) (fun q => k _ (Or.inr ⟨fun z => ?_, rfl⟩)) (fun q q2 => k _ (Or.inr ⟨fun z => q2 ?_, rfl⟩)) (fun q q2 => k _ (Or.inl ⟨⟨?_, ?_⟩, rfl⟩)))
  · rw [el] at q; exact vp_in_nI (by omega) (by decide)
  · rw [el] at q; omega
  · rw [cj, h4 j z.1]; exact z.2
  · rw [el] at q; omega
  · rw [el] at q; rw [cj, h4 j (by omega)] at q2; exact q2
theorem x_hasTwo {j : Nat} (hd : 1 ≤ d) (hF : Fix H) (h : LC g w) (hj : j ≤ 50) (k : ∀ r, bI (two w j c) r → Q (some (vI r)) (wi H g)) : cwp d 13 [vR 54, vI (nI j), vI c] (wi H g) Q := by
  obtain ⟨h1, h2, h3, h4⟩ := h
  have el : g 54 1 ≤ nI j + 1 ↔ w.length ≤ j + 1 := by rw [h3, nI_1, nI_leI (by omega) (by omega)]
  have cj : (nI j).toNatClampNeg = j := nI_clamp (by omega)
  have cj1 : (nI j + 1).toNatClampNeg = j + 1 := by rw [nI_1]; exact nI_clamp (by omega)
  refine e_Line_hasTwo (by omega) (hF.c 54 21 rfl) (f_Line_hasTwo_0 hF (fun q => ?_) (fun q _ => ?_) (fun q => k _ (Or.inr ⟨fun z => ?_, rfl⟩)) (fun q q2 => k _ (Or.inr ⟨fun z => q2 ?_, rfl⟩)) (fun q q2 q3 => k _ (Or.inr ⟨fun z => q3 ?_, rfl⟩)) (fun q q2 q3 => k _ (Or.inl ⟨⟨?_, ?_, ?_⟩, rfl⟩)))
  · rw [el] at q; exact vp_in_nI (by omega) (by decide)
  · rw [el] at q; rw [nI_1]; exact vp_in_nI (by omega) (by decide)
  · rw [el] at q; have := z.1; omega
  · rw [cj, h4 j (by have := z.1; omega)]; exact z.2.1
  · rw [cj1, h4 _ z.1]; exact z.2.2
  · rw [el] at q; omega
  · rw [el] at q; rw [cj, h4 j (by omega)] at q2; exact q2
  · rw [el] at q; rw [cj1, h4 _ (by omega)] at q3; exact q3
theorem x_hasLetter {j : Nat} (hd : 1 ≤ d) (hF : Fix H) (h : LC g w) (hj : j ≤ 50) (k : ∀ r, bI (j < w.length ∧ ltr (ch w j)) r → Q (some (vI r)) (wi H g)) : cwp d 21 [vR 54, vI (nI j)] (wi H g) Q := by
  obtain ⟨h1, h2, h3, h4⟩ := h
  have el : g 54 1 ≤ nI j ↔ w.length ≤ j := by rw [h3, nI_leI (by omega) (by omega)]
  have cj : (nI j).toNatClampNeg = j := nI_clamp (by omega)
  refine e_Line_hasLetter (by omega) (hF.c 54 21 rfl) (f_Line_hasLetter_0 hF (fun q => ?_) (fun q => k _ (Or.inr ⟨fun z => ?_, rfl⟩)) (fun q q2 => k _ (Or.inr ⟨fun z => ?_, rfl⟩)) (fun q q2 q3 => k _ (Or.inr ⟨fun z => ?_, rfl⟩)) (fun q q2 q3 => k _ (Or.inl ⟨⟨?_, ?_, ?_⟩, rfl⟩)))
  · rw [el] at q; exact vp_in_nI (by omega) (by decide)
  · rw [el] at q; omega
  · rw [cj, h4 j z.1] at q2; exact absurd q2 (Int32.not_lt.mpr z.2.1)
  · rw [cj, h4 j z.1] at q3; exact absurd q3 (Int32.not_lt.mpr z.2.2)
  · rw [el] at q; omega
  · rw [el] at q; rw [cj, h4 j (by omega)] at q2; exact Int32.not_lt.mp q2
  · rw [el] at q; rw [cj, h4 j (by omega)] at q3; exact Int32.not_lt.mp q3
end LINE
