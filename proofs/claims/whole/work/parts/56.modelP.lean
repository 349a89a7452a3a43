/-! the reference: a line is looked at; links -/
def lnI (l : Tx) (i : Nat) : Ln := lnx (tf l) l.length i
theorem lnI_len (l : Tx) (i : Nat) : (lnI l i).length = eLn l i - sLn l i := lnx_len _ _ _
theorem lnI_ch {l : Tx} {i k : Nat} (h : k < eLn l i - sLn l i) : ch (lnI l i) k = tf l (sLn l i + k) := by
  unfold ch
  rw [List.getD_eq_getElem?_getD]
  have := lnx_get (f := tf l) (n := l.length) (i := i) (k := k) h
  unfold lnI
  rw [this]
  rfl
/-- dollars are filled: c below 0 leaves them -/
def fl (c : Int32) (w : Ln) : Ln := fil (if c < 0 then 36 else c) w
theorem fil_36 (w : Ln) : fil 36 w = w := by
  unfold fil
  have : (fun d : Int32 => if d = 36 then (36 : Int32) else d) = id := by
    funext d
    by_cases h : d = 36
    · rw [if_pos h, h]; rfl
    · rw [if_neg h]; rfl
  rw [this, List.map_id]
theorem fl_len (c : Int32) (w : Ln) : (fl c w).length = w.length := by simp [fl, fil]
theorem fl_ch {c : Int32} {w : Ln} {k : Nat} (h : k < w.length) : ch (fl c w) k = if ch w k = 36 ∧ ¬ c < 0 then c else ch w k := by
  unfold fl fil ch
  rw [List.getD_eq_getElem?_getD, List.getD_eq_getElem?_getD, List.getElem?_map, List.getElem?_eq_getElem h]
  simp only [Option.map_some, Option.getD_some]
  by_cases h1 : w[k] = 36
  · by_cases h2 : c < 0
    · simp [h1, h2]
    · simp [h1, h2]
  · simp [h1]
/-- the reference's line -/
def LW (g : Nat → Nat → Int32) (w : Ln) : Prop := w.length ≤ 40 ∧ g 58 15 = nI w.length ∧ ∀ j, j < w.length → g 66 j = ch w j
/-- all but the line is as it was -/
def NL (g g' : Nat → Nat → Int32) : Prop := (∀ a, a ≠ 58 → a ≠ 66 → g' a = g a) ∧ ∀ j, j ≠ 15 → g' 58 j = g 58 j
theorem NL.rf {g : Nat → Nat → Int32} : NL g g := ⟨fun _ _ _ => rfl, fun _ _ => rfl⟩
theorem NL.trans {g g' g'' : Nat → Nat → Int32} (h : NL g g') (h2 : NL g' g'') : NL g g'' := ⟨fun a q1 q2 => by rw [h2.1 a q1 q2, h.1 a q1 q2], fun j hj => by rw [h2.2 j hj, h.2 j hj]⟩
theorem RI.nl {g g' : Nat → Nat → Int32} {σ : SG} (h : RI g σ) (hn : NL g g') : RI g' σ :=
  h.fr (fun j hj => hn.2 j (fun e => by subst e; simp at hj)) (hn.1 59 (by decide) (by decide)) (hn.1 60 (by decide) (by decide)) (hn.1 61 (by decide) (by decide)) (hn.1 62 (by decide) (by decide)) (hn.1 70 (by decide) (by decide))
section MODP
variable {d : Nat} {Q : Option AV → AH → Prop} {H : AH} {g : Nat → Nat → Int32} {x y v c : Int32} {l : Tx} {σ : SG} {w : Ln}
theorem lm_look {s i : Nat} {x2 : Int32} (hF : Fix H) (hs : s ≤ 25) (h : ST g s l) (hi : i < nLn l) (k : ∀ g', NL g g' → LW g' (fl c (lnI l i)) → Q (some (vI (nI (eLn l i + 1)))) (wi H g')) :
    ∀ (m q : Nat) (g1 : Nat → Nat → Int32) (u : AV), sLn l i + q + m = eLn l i → NL g g1 → g1 58 15 = nI q → (∀ j, j < q → g1 66 j = ch (fl c (lnI l i)) j) →
    wp d sc_Model_look 8 [vR 58, vI (nI s), vI x2, vI c, vI (nI (sLn l i + q)), u] [] (wi H g1) Q := by
  have hle := h.2.1
  obtain ⟨e1, e2, e3, e4, e5⟩ := eLn_spec hi
  have hlen := lnI_len l i
  have hsc : (nI s).toNatClampNeg = s := nI_clamp (by omega)
  have hvs : vp_in (nI s) 27 := vp_in_nI (by omega) (by decide)
  have hc : cnt (tf l) l.length + 1 = nLn l := rfl
  intro m
  induction m with
  | zero =>
    intro q g1 u hq hn h15 h66
    have eq : sLn l i + q = eLn l i := by omega
    have fin : Q (some (vI (nI (sLn l i + q) + 1))) (wi H g1) := by
      rw [nI_1, eq]
      exact k g1 hn ⟨by rw [fl_len]; omega, by rw [fl_len, hlen, h15]; congr 1; omega, fun j hj => h66 j (by rw [fl_len] at hj; omega)⟩
    have h60 : g1 60 (nI s).toNatClampNeg = nI l.length := by rw [hsc, hn.1 60 (by decide) (by decide)]; exact h.1
    by_cases hlt : eLn l i < l.length
    · have h10 : tf l (eLn l i) = 10 := by
        rcases Nat.lt_or_ge i (cnt (tf l) l.length) with z | z
        · exact (e4 z).2.1
        · have := e5 (by omega); omega
      have z : ¬ g1 60 (nI s).toNatClampNeg ≤ nI (sLn l i + q) := by rw [h60]; exact nI_ge (by omega) (by omega)
      have z10 : g1 59 ((40 : Int32) * nI s + nI (sLn l i + q)).toNatClampNeg = 10 := by
        rw [nI_40, nI_clamp (by omega), hn.1 59 (by decide) (by decide), eq, h.2.2 _ hlt, h10]
      exact f_Model_look_8 hF hvs (fun _ => by rw [nI_40]; exact vp_in_nI (by omega) (by decide)) (fun _ r => absurd z10 r) (fun _ r => absurd z10 r) (fun _ r => absurd z10 r) (fun r => absurd r z) (fun _ _ => fin) (fun _ r => absurd z10 r) (fun _ r => absurd z10 r) (fun _ r => absurd z10 r)
    · have z : g1 60 (nI s).toNatClampNeg ≤ nI (sLn l i + q) := by rw [h60]; exact nI_le (by omega) (by omega)
      exact f_Model_look_8 hF hvs (fun r => absurd z r) (fun r => absurd z r) (fun r => absurd z r) (fun r => absurd z r) (fun _ => fin) (fun r => absurd z r) (fun r => absurd z r) (fun r => absurd z r) (fun r => absurd z r)
  | succ m ih =>
    intro q g1 u hq hn h15 h66
    have h60 : g1 60 (nI s).toNatClampNeg = nI l.length := by rw [hsc, hn.1 60 (by decide) (by decide)]; exact h.1
    have z : ¬ g1 60 (nI s).toNatClampNeg ≤ nI (sLn l i + q) := by rw [h60]; exact nI_ge (by omega) (by omega)
    have hch := lnI_ch (l := l) (i := i) (k := q) (by omega)
    have gq : g1 59 ((40 : Int32) * nI s + nI (sLn l i + q)).toNatClampNeg = ch (lnI l i) q := by
      rw [nI_40, nI_clamp (by omega), hn.1 59 (by decide) (by decide), h.2.2 _ (by omega), hch]
    have n10 : ¬ ch (lnI l i) q = 10 := by rw [hch]; exact e3 _ (by omega) (by omega)
    have hfl := fl_ch (c := c) (w := lnI l i) (k := q) (by omega)
    have hv15 : vp_in (g1 58 15) 40 := by rw [h15]; exact vp_in_nI (by omega) (by decide)
    have next : ∀ (V : Int32) (u : AV), V = ch (fl c (lnI l i)) q → wp d sc_Model_look 8 [vR 58, vI (nI s), vI x2, vI c, vI (nI (sLn l i + q) + 1), u] [] (wi H (sm_u2 (sm_u2 g1 66 (g1 58 15).toNatClampNeg V) 58 15 (g1 58 15 + 1))) Q := by
      intro V u hV
      rw [nI_1, h15, nI_clamp (by omega), nI_1]
      refine ih (q + 1) _ u (by omega) (hn.trans ⟨fun a a1 a2 => by rw [u2_na a1, u2_na a2], fun j hj => by rw [u2_ne (Or.inr hj), u2_ne (Or.inl (by decide))]⟩) u2_self (fun j hj => ?_)
      rw [u2_ne (Or.inl (by decide))]
      by_cases e : j = q
      · subst e; rw [u2_self]; exact hV
      · rw [u2_ne (Or.inr e)]; exact h66 j (by omega)
    refine f_Model_look_8 hF hvs (fun _ => by rw [nI_40]; exact vp_in_nI (by omega) (by decide)) (fun _ _ _ => hv15) (fun _ _ _ _ => hv15) (fun _ _ _ _ => hv15) (fun r => absurd r z) (fun _ r => absurd (by rw [← gq]; exact r) n10) (fun _ _ r => ?_) (fun _ _ r r2 => ?_) (fun _ _ r r2 => ?_)
    · rw [gq] at r ⊢
      exact next _ _ (by rw [hfl, if_neg (fun z => r z.1)])
    · rw [gq] at r ⊢
      exact next _ _ (by rw [hfl, if_neg (fun z => z.2 r2)])
    · rw [gq] at r ⊢
      exact next _ _ (by rw [hfl, if_pos ⟨r, r2⟩])
theorem c_look {s i : Nat} (hd : 1 ≤ d) (hF : Fix H) (hs : s ≤ 25) (h : ST g s l) (hi : i < nLn l) (k : ∀ g', NL g g' → LW g' (fl c (lnI l i)) → Q (some (vI (nI (eLn l i + 1)))) (wi H g')) : cwp d 153 [vR 58, vI (nI s), vI (nI (sLn l i)), vI c] (wi H g) Q := by
  have h1 := (eLn_spec hi).1
  refine e_Model_look hd (hF.c 58 31 rfl) (f_Model_look_0 hF ?_)
  have ho : NL g (sm_u2 g 58 15 0) := ⟨fun a a1 _ => u2_na a1, fun j hj => u2_ne (Or.inr hj)⟩
  have h2 : ST (sm_u2 g 58 15 0) s l := ⟨by rw [u2_ne (Or.inl (by decide))]; exact h.1, h.2.1, fun j hj => by rw [u2_ne (Or.inl (by decide))]; exact h.2.2 j hj⟩
  exact lm_look hF hs h2 hi (fun g' hn hw => k g' (ho.trans hn) hw) (eLn l i - sLn l i) 0 _ _ (by omega) NL.rf (by rw [u2_self]; rfl) (fun j hj => by omega)
theorem c_letter {j : Nat} (hd : 1 ≤ d) (hF : Fix H) (hj : j < 40) (k : ∀ r, bI (ltr (g 66 j)) r → Q (some (vI r)) (wi H g)) : cwp d 154 [vR 58, vI (nI j)] (wi H g) Q := by
  have hc : (nI j).toNatClampNeg = j := nI_clamp (by omega)
  refine e_Model_letter hd (hF.c 58 31 rfl) (f_Model_letter_0 hF (vp_in_nI hj (by decide)) (fun q => ?_) (fun q q2 => ?_) (fun q q2 => ?_))
  · rw [hc] at q
    exact k _ (Or.inr ⟨fun z => absurd q (Int32.not_lt.mpr z.1), rfl⟩)
  · rw [hc] at q2
    exact k _ (Or.inr ⟨fun z => absurd q2 (Int32.not_lt.mpr z.2), rfl⟩)
  · rw [hc] at q q2
    exact k _ (Or.inl ⟨⟨Int32.not_lt.mp q, Int32.not_lt.mp q2⟩, rfl⟩)
theorem c_includes (hd : 2 ≤ d) (hF : Fix H) (h : LW g w) (k : ∀ r, bI (inc w) r → Q (some (vI r)) (wi H g)) : cwp d 155 [vR 58] (wi H g) Q := by
  obtain ⟨h1, h2, h3⟩ := h
  have e5 : g 58 15 = 5 ↔ w.length = 5 := by rw [h2, show (5 : Int32) = nI 5 from rfl, nI_eq (by omega) (by decide)]
  have e6 : g 58 15 = 6 ↔ w.length = 6 := by rw [h2, show (6 : Int32) = nI 6 from rfl, nI_eq (by omega) (by decide)]
  have no : ¬ inc w → Q (some (vI 0)) (wi H g) := fun z => k _ (Or.inr ⟨z, rfl⟩)
  have go : (w.length = 5 ∨ w.length = 6) → g 66 0 = 123 → g 66 1 = 123 → cwp (d - 1) 154 [vR 58, vI 2] (wi H g) (fun r1 H1 => wp (d - 1) sc_Model_includes 54 [vR 58, vI 1] (r1.toList ++ []) H1 Q) := by
    intro hl q0 q1
    refine c_letter (j := 2) (by omega) hF (by decide) (fun r hr => ?_)
    have en2 : g 58 15 - 2 = nI (w.length - 2) := by rw [h2, show (2 : Int32) = nI 2 from rfl, nI_sub (by omega)]
    have en1 : g 58 15 - 1 = nI (w.length - 1) := by rw [h2, show (1 : Int32) = nI 1 from rfl, nI_sub (by omega)]
    have c2 : (g 58 15 - 2).toNatClampNeg = w.length - 2 := by rw [en2, nI_clamp (by omega)]
    have c1 : (g 58 15 - 1).toNatClampNeg = w.length - 1 := by rw [en1, nI_clamp (by omega)]
    rw [h3 2 (by omega)] at hr
    rw [h3 0 (by omega)] at q0
    rw [h3 1 (by omega)] at q1
    refine f_Model_includes_54 hF (fun _ => by rw [en2]; exact vp_in_nI (by omega) (by decide)) (fun _ _ => by rw [en1]; exact vp_in_nI (by omega) (by decide)) (fun z => no ?_) (fun z z1 => no ?_) (fun z z1 z2 => no ?_) (fun z z1 z2 => ?_)
    · rcases hr with ⟨-, hr⟩ | ⟨hr, -⟩
      · rw [hr] at z; exact absurd z (by decide)
      · exact fun i => hr i.2.2.2.1
    · rw [c2, h3 _ (by omega)] at z1
      exact fun i => z1 i.2.2.2.2.1
    · rw [c1, h3 _ (by omega)] at z2
      exact fun i => z2 i.2.2.2.2.2
    · rw [c2, h3 _ (by omega)] at z1
      rw [c1, h3 _ (by omega)] at z2
      rcases hr with ⟨hr, -⟩ | ⟨-, hr⟩
      · exact k _ (Or.inl ⟨⟨hl, q0, q1, hr, z1, z2⟩, rfl⟩)
      · exact absurd hr z
  refine e_Model_includes (by omega) (hF.c 58 31 rfl) (f_Model_includes_0 hF (fun q q0 => no ?_) (fun q q0 q1 => no ?_) (fun q q0 q1 => go (Or.inl (e5.mp q)) q0 q1) (fun q q2 => no ?_) (fun q q2 q0 => no ?_) (fun q q2 q0 q1 => no ?_) (fun q q2 q0 q1 => go (Or.inr (e6.mp q2)) q0 q1))
  · have := e5.mp q
    rw [h3 0 (by omega)] at q0
    exact fun i => q0 i.2.1
  · have := e5.mp q
    rw [h3 1 (by omega)] at q1
    exact fun i => q1 i.2.2.1
  · rintro ⟨i | i, -⟩
    · exact q (e5.mpr i)
    · exact q2 (e6.mpr i)
  · have := e6.mp q2
    rw [h3 0 (by omega)] at q0
    exact fun i => q0 i.2.1
  · have := e6.mp q2
    rw [h3 1 (by omega)] at q1
    exact fun i => q1 i.2.2.1
theorem c_linked {j : Nat} (hd : 2 ≤ d) (hF : Fix H) (h : LW g w) (hj : j ≤ 40) (k : ∀ r, bI (lkd w j) r → Q (some (vI r)) (wi H g)) : cwp d 156 [vR 58, vI (nI j), vI (nI w.length)] (wi H g) Q := by
  obtain ⟨h1, h2, h3⟩ := h
  have no : ¬ lkd w j → Q (some (vI 0)) (wi H g) := fun z => k _ (Or.inr ⟨z, rfl⟩)
  have e5 : nI w.length < nI j + 5 ↔ w.length < j + 5 := by rw [show (5 : Int32) = nI 5 from rfl, nI_add, nI_ltI (by omega) (by omega)]
  have ej : ∀ z : Nat, z < 10 → (nI j + nI z).toNatClampNeg = j + z := fun z hz => by rw [nI_add, nI_clamp (by omega)]
  have ev : ∀ z : Nat, j + z < 40 → z < 10 → vp_in (nI j + nI z) 40 := fun z hz hz2 => by rw [nI_add]; exact vp_in_nI hz (by decide)
  have hc : (nI j).toNatClampNeg = j := nI_clamp (by omega)
  refine e_Model_linked (by omega) (hF.c 58 31 rfl) (f_Model_linked_0 hF (fun q => ?_) (fun q _ => ?_) (fun q => no ?_) (fun q q1 => no ?_) (fun q q1 q2 => no ?_) (fun q q1 q2 => ?_))
  · rw [e5] at q; exact vp_in_nI (by omega) (by decide)
  · rw [e5] at q; exact ev 1 (by omega) (by decide)
  · rw [e5] at q
    exact fun i => by have := i.1; omega
  · rw [e5] at q
    rw [hc, h3 j (by omega)] at q1
    exact fun i => q1 i.2.1
  · rw [e5] at q
    rw [show nI j + 1 = nI j + nI 1 from rfl, ej 1 (by decide), h3 _ (by omega)] at q2
    exact fun i => q2 i.2.2.1
  · rw [e5] at q
    rw [hc, h3 j (by omega)] at q1
    rw [show nI j + 1 = nI j + nI 1 from rfl, ej 1 (by decide), h3 _ (by omega)] at q2
    rw [show nI j + 2 = nI (j + 2) from nI_add j 2]
    refine c_letter (j := j + 2) (by omega) hF (by omega) (fun r hr => ?_)
    rw [h3 _ (by omega)] at hr
    refine f_Model_linked_38 hF (fun _ => ev 3 (by omega) (by decide)) (fun _ _ => ev 4 (by omega) (by decide)) (fun z => no ?_) (fun z z1 => no ?_) (fun z z1 z2 => no ?_) (fun z z1 z2 => ?_)
    · rcases hr with ⟨-, hr⟩ | ⟨hr, -⟩
      · rw [hr] at z; exact absurd z (by decide)
      · exact fun i => hr i.2.2.2.1
    · rw [show nI j + 3 = nI j + nI 3 from rfl, ej 3 (by decide), h3 _ (by omega)] at z1
      exact fun i => z1 i.2.2.2.2.1
    · rw [show nI j + 4 = nI j + nI 4 from rfl, ej 4 (by decide), h3 _ (by omega)] at z2
      exact fun i => z2 i.2.2.2.2.2
    · rw [show nI j + 3 = nI j + nI 3 from rfl, ej 3 (by decide), h3 _ (by omega)] at z1
      rw [show nI j + 4 = nI j + nI 4 from rfl, ej 4 (by decide), h3 _ (by omega)] at z2
      rcases hr with ⟨hr, -⟩ | ⟨-, hr⟩
      · exact k _ (Or.inl ⟨⟨by omega, q1, q2, hr, z1, z2⟩, rfl⟩)
      · exact absurd hr z
end MODP
