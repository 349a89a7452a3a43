/-! the reference: cut, recover, shown, the draft's calls on the state; a line is looked at -/
def sp_cut (σ : SG) (k : Int32) : Int32 × SG := match σ with
  | (K, D, R, ct, wr, dw, cl, nb, pd, scr) => if dw = true ∨ k < 0 then (0, σ) else (1, K, D, R, k, wr, dw, cl, nb, pd, scr)
def sp_recover (σ : SG) (n : Int32) : Int32 × SG := match σ with
  | (K, D, R, ct, wr, dw, cl, nb, pd, scr) => if dw = false ∨ n < 1 then (-1, σ) else if cl = true then
      (if nI (nb + 1) ≤ n then (nI (nb + 1), K, D, R ++ [pd], ct, wr + nI (nb + 1), false, cl, nb, pd, scr) else (n, K, D, R, ct, wr + n, dw, cl, nb, pd, scr))
    else (1, K, D, R, ct, wr + 1, false, cl, nb, pd, scr)
def sp_shown (σ : SG) (k : Int32) : Int32 := if k < 0 ∨ nI σ.2.2.2.2.2.2.2.2.2.length ≤ k then -1 else tf σ.2.2.2.2.2.2.2.2.2 k.toNatClampNeg
def sp_type (σ : SG) (x : Int32) : Int32 × SG := if (prn x ∨ x = 10) ∧ σ.2.1.length < 40 then (1, σ.1, σ.2.1 ++ [x], σ.2.2) else (0, σ)
/-- a line's number -/
def lnN (l : Tx) (x : Int32) : Option Nat := if ¬ x < 0 ∧ x < nI (nLn l) then some x.toNatClampNeg else none
theorem lnN_some {l : Tx} {i : Nat} (h : i < nLn l) (hl : l.length ≤ 40) : lnN l (nI i) = some i := by
  have := nLn_le l
  unfold lnN
  rw [if_pos ⟨nI_pos (by omega), nI_lt h (by omega)⟩, nI_clamp (by omega)]
theorem lnN_none {l : Tx} {x : Int32} (hl : l.length ≤ 40) (h : ∀ i, i < nLn l → x ≠ nI i) : lnN l x = none := by
  have := nLn_le l
  unfold lnN
  rw [if_neg]
  rintro ⟨h1, h2⟩
  obtain ⟨j, hj, rfl⟩ := nI_of h1
  rw [nI_ltI hj (by omega)] at h2
  exact h j h2 rfl
def sp_put (σ : SG) (x c : Int32) : Int32 × SG := match lnN σ.2.1 x with
  | none => (0, σ)
  | some i => if prn c ∧ σ.2.1.length < 40 then (1, σ.1, ins σ.2.1 (eLn σ.2.1 i) c, σ.2.2) else (0, σ)
def sp_drop (σ : SG) (x : Int32) : Int32 × SG := match lnN σ.2.1 x with
  | none => (0, σ)
  | some i => (1, σ.1, cutl σ.2.1 (dpA σ.2.1 i) (dpB σ.2.1 i), σ.2.2)
def sp_at (σ : SG) (k : Int32) : Int32 := if k < 0 ∨ nI σ.2.1.length ≤ k then -1 else tf σ.2.1 k.toNatClampNeg
section MODO
variable {d : Nat} {Q : Option AV → AH → Prop} {H : AH} {g : Nat → Nat → Int32} {x y v c : Int32} {l : Tx} {σ : SG}
theorem r_type (hd : 2 ≤ d) (hF : Fix H) (h : RI g σ) (k : ∀ g', RI g' (sp_type σ x).2 → Q (some (vI (sp_type σ x).1)) (wi H g')) : cwp d 147 [vR 58, vI x] (wi H g) Q := by
  unfold sp_type at k
  refine c_type hd hF h.dr (fun hn => ?_) (fun h1 h2 g' ho hst => ?_)
  · rw [if_neg hn] at k; exact k g h
  · rw [if_pos ⟨h1, h2⟩] at k; exact k g' (h.draft ho hst)
theorem r_put (hd : 4 ≤ d) (hF : Fix H) (h : RI g σ) (k : ∀ g', RI g' (sp_put σ x c).2 → Q (some (vI (sp_put σ x c).1)) (wi H g')) : cwp d 148 [vR 58, vI x, vI c] (wi H g) Q := by
  have hle := h.dr.2.1
  refine c_put hd hF h.dr (fun hn => ?_) (fun i hi e h1 h2 g' ho hst => ?_)
  · have e : sp_put σ x c = (0, σ) := by
      unfold sp_put
      by_cases hx : ∀ i, i < nLn σ.2.1 → x ≠ nI i
      · rw [lnN_none hle hx]
      · obtain ⟨i, hi0⟩ := Classical.not_forall.mp hx
        obtain ⟨hi, he⟩ := Classical.not_imp.mp hi0
        clear hi0
        have he : x = nI i := Classical.not_not.mp he
        subst he
        rw [lnN_some hi hle]
        dsimp only
        rw [if_neg]
        rintro ⟨q1, q2⟩
        have := hn i hi rfl q1
        omega
    rw [e] at k
    exact k g h
  · subst e
    have e : sp_put σ (nI i) c = (1, σ.1, ins σ.2.1 (eLn σ.2.1 i) c, σ.2.2) := by
      unfold sp_put
      rw [lnN_some hi hle]
      dsimp only
      rw [if_pos ⟨h1, h2⟩]
    rw [e] at k
    exact k g' (h.draft ho hst)
theorem r_drop (hd : 4 ≤ d) (hF : Fix H) (h : RI g σ) (k : ∀ g', RI g' (sp_drop σ x).2 → Q (some (vI (sp_drop σ x).1)) (wi H g')) : cwp d 149 [vR 58, vI x] (wi H g) Q := by
  have hle := h.dr.2.1
  refine c_drop hd hF h.dr (fun hn => ?_) (fun i hi e g' ho hst => ?_)
  · have e : sp_drop σ x = (0, σ) := by unfold sp_drop; rw [lnN_none hle hn]
    rw [e] at k
    exact k g h
  · subst e
    have e : sp_drop σ (nI i) = (1, σ.1, cutl σ.2.1 (dpA σ.2.1 i) (dpB σ.2.1 i), σ.2.2) := by unfold sp_drop; rw [lnN_some hi hle]
    rw [e] at k
    exact k g' (h.draft ho hst)
theorem r_clear (hd : 1 ≤ d) (hF : Fix H) (h : RI g σ) (k : ∀ g', RI g' (σ.1, [], σ.2.2) → Q none (wi H g')) : cwp d 150 [vR 58] (wi H g) Q :=
  c_clear hd hF (fun g' ho hst => k g' (h.draft ho hst))
theorem r_at (hd : 1 ≤ d) (hF : Fix H) (h : RI g σ) (k : Q (some (vI (sp_at σ x))) (wi H g)) : cwp d 152 [vR 58, vI x] (wi H g) Q := by
  have hle := h.dr.2.1
  unfold sp_at at k
  refine c_at hd hF h.dr (fun hn => ?_) (fun j hj e => ?_)
  · by_cases hx : x < 0 ∨ nI σ.2.1.length ≤ x
    · rw [if_pos hx] at k; exact k
    · exfalso
      obtain ⟨j, hj, rfl⟩ := nI_of (fun q => hx (Or.inl q))
      have h2 : ¬ nI σ.2.1.length ≤ nI j := fun q => hx (Or.inr q)
      rw [nI_leI (by omega) hj] at h2
      exact hn j (by omega) rfl
  · subst e
    rw [if_neg, nI_clamp (by omega)] at k
    · exact k
    · rintro (q | q)
      · exact absurd q (nI_pos (by omega))
      · exact absurd q (nI_ge hj (by omega))
theorem r_cut (hd : 1 ≤ d) (hF : Fix H) (h : RI g σ) (k : ∀ g', RI g' (sp_cut σ x).2 → Q (some (vI (sp_cut σ x).1)) (wi H g')) : cwp d 170 [vR 58, vI x] (wi H g) Q := by
  have hd0 := h.dn0
  obtain ⟨K, D, R, ct, wr, dw, cl, nb, pd, scr⟩ := σ
  have hd0 : g 58 9 = 0 ↔ ¬ dw = true := hd0
  unfold sp_cut at k
  dsimp only at k
  refine e_Model_cut hd (hF.c 58 31 rfl) (f_Model_cut_0 hF (fun q => ?_) (fun q q1 => ?_) (fun q q1 => ?_))
  · rw [if_pos (Or.inl (by rw [hd0] at q; simpa using q))] at k
    exact k g h
  · rw [if_neg (by rintro (z | z); exact hd0.mp q z; exact absurd q1 (Int32.not_le.mpr z))] at k
    refine k _ ?_
    obtain ⟨hK, gK, gD, hR, hct, hwr, hdw, hpd, hsc, hs2, hs3⟩ := h
    have f : ∀ a, a ≠ 58 → sm_u2 g 58 10 x a = g a := fun a ha => u2_na ha
    have f2 : ∀ j, j ≠ 10 → sm_u2 g 58 10 x 58 j = g 58 j := fun j hj => u2_ne (Or.inr hj)
    refine ⟨hK, by rw [f2 5 (by decide)]; exact gK, ⟨by rw [f 60 (by decide)]; exact gD.1, gD.2.1, fun j hj => by rw [f 59 (by decide)]; exact gD.2.2 j hj⟩, hR.fr (f 59 (by decide)) (f 60 (by decide)) (f 61 (by decide)) (f 62 (by decide)) (f2 2 (by decide)), u2_self, by rw [f2 13 (by decide)]; exact hwr, by rw [f2 9 (by decide)]; exact hdw, fun z => absurd z (hd0.mp q), hsc, by rw [f2 21 (by decide)]; exact hs2, fun j hj => by rw [f 70 (by decide)]; exact hs3 j hj⟩
  · rw [if_pos (Or.inr (Int32.not_le.mp q1))] at k
    exact k g h
theorem r_shown (hd : 1 ≤ d) (hF : Fix H) (h : RI g σ) (k : Q (some (vI (sp_shown σ x))) (wi H g)) : cwp d 169 [vR 58, vI x] (wi H g) Q := by
  obtain ⟨K, D, R, ct, wr, dw, cl, nb, pd, scr⟩ := σ
  obtain ⟨hK, gK, gD, hR, hct, hwr, hdw, hpd, hsc, hs2, hs3⟩ := h
  unfold sp_shown at k
  dsimp only at k
  refine e_Model_shown hd (hF.c 58 31 rfl) (f_Model_shown_0 hF (fun q q1 => ?_) (fun q => ?_) (fun q q1 => ?_) (fun q q1 => ?_))
  · obtain ⟨j, hj, rfl⟩ := nI_of q
    rw [hs2, nI_ltI hj (by omega)] at q1
    exact vp_in_nI (by omega) (by decide)
  · rw [if_pos (Or.inl q)] at k; exact k
  · rw [hs2] at q1
    rw [if_neg (by rintro (z | z); exact q z; exact absurd z (Int32.not_le.mpr q1))] at k
    obtain ⟨j, hj, rfl⟩ := nI_of q
    rw [nI_ltI hj (by omega)] at q1
    rw [nI_clamp hj] at k ⊢
    rw [hs3 j q1]
    exact k
  · rw [hs2] at q1
    rw [if_pos (Or.inr (Int32.not_lt.mp q1))] at k; exact k
theorem r_recover (hd : 4 ≤ d) (hF : Fix H) (h : RI g σ) (k : ∀ g', RI g' (sp_recover σ x).2 → Q (some (vI (sp_recover σ x).1)) (wi H g')) : cwp d 171 [vR 58, vI x] (wi H g) Q := by
  have hd0 := h.dn0
  obtain ⟨K, D, R, ct, wr, dw, cl, nb, pd, scr⟩ := σ
  have hd0 : g 58 9 = 0 ↔ ¬ dw = true := hd0
  unfold sp_recover at k
  dsimp only at k
  have h0 := h
  obtain ⟨hK, gK, gD, hR, hct, hwr, hdw, hpd, hsc, hs2, hs3⟩ := h
  -- a state whose fields written and down alone differ
  have upd : ∀ (g' : Nat → Nat → Int32) (wr' : Int32) (dw' : Bool), (∀ a, a ≠ 58 → g' a = g a) → (∀ j, j ≠ 13 → j ≠ 9 → g' 58 j = g 58 j) → g' 58 13 = wr' → g' 58 9 = zB dw' → (dw' = true → dw = true) → RI g' (K, D, R, ct, wr', dw', cl, nb, pd, scr) := by
    intro g' wr' dw' f f2 h13 h9 himp
    have st : ∀ s l, ST g s l → ST g' s l := fun s l q => ⟨by rw [f 60 (by decide)]; exact q.1, q.2.1, fun j hj => by rw [f 59 (by decide)]; exact q.2.2 j hj⟩
    refine ⟨hK, by rw [f2 5 (by decide) (by decide)]; exact gK, st _ _ gD, hR.fr (f 59 (by decide)) (f 60 (by decide)) (f 61 (by decide)) (f 62 (by decide)) (f2 2 (by decide) (by decide)), by rw [f2 10 (by decide) (by decide)]; exact hct, h13, h9, fun z => ?_, hsc, by rw [f2 21 (by decide) (by decide)]; exact hs2, fun j hj => by rw [f 70 (by decide)]; exact hs3 j hj⟩
    obtain ⟨a1, a2, a3, a4, a5, a6, a7, a8⟩ := hpd (himp z)
    exact ⟨by rw [f2 12 (by decide) (by decide)]; exact a1, by rw [f2 11 (by decide) (by decide)]; exact a2, a3, st _ _ a4, by rw [f 61 (by decide)]; exact a5, by rw [f 62 (by decide)]; exact a6, a7, a8⟩
  have dwt : ¬ g 58 9 = 0 → dw = true := fun q => by rw [hd0] at q; simpa using q
  refine e_Model_recover (by omega) (hF.c 58 31 rfl) (f_Model_recover_0 hF (fun q => ?_) (fun q q1 q2 => ?_) (fun q q1 q2 q3 _ => ?_) (fun q q1 q2 q3 q4 => absurd (Int32.le_refl _) q4) (fun q q1 q2 q3 => ?_) (fun q q1 => ?_))
  · rw [if_pos (Or.inl (by have := hd0.mp q; simpa using this))] at k
    exact k g h0
  · have hdt := dwt q
    obtain ⟨a1, a2, a3, a4, a5, a6, a7, a8⟩ := hpd hdt
    have hcl : cl = false := zB_0.mp (by rw [← a1]; exact q2)
    rw [if_neg (by rintro (z | z); rw [hdt] at z; cases z; exact absurd q1 (Int32.not_le.mpr z)), if_neg (by rw [hcl]; decide)] at k
    refine k _ (upd _ _ _ (fun a ha => by rw [u2_na ha, u2_na ha]) (fun j h1 h2 => by rw [u2_ne (Or.inr h2), u2_ne (Or.inr h1)]) ?_ ?_ (fun z => by cases z))
    · rw [u2_ne (Or.inr (by decide)), u2_self, hwr]
    · rw [u2_self]; rfl
  · have hdt := dwt q
    obtain ⟨a1, a2, a3, a4, a5, a6, a7, a8⟩ := hpd hdt
    have hcl : cl = true := by
      have : ¬ cl = false := fun z => q2 (by rw [a1]; exact zB_0.mpr z)
      simpa using this
    rw [a2, nI_1] at q3
    rw [if_neg (by rintro (z | z); rw [hdt] at z; cases z; exact absurd q1 (Int32.not_le.mpr z)), if_pos hcl, if_pos q3] at k
    rw [a2, nI_1, hwr]
    have hr := upd (sm_u2 (sm_u2 g 58 13 (wr + nI (nb + 1))) 58 9 0) (wr + nI (nb + 1)) false (fun a ha => by rw [u2_na ha, u2_na ha]) (fun j h1 h2 => by rw [u2_ne (Or.inr h2), u2_ne (Or.inr h1)]) (by rw [u2_ne (Or.inr (by decide)), u2_self]) (by rw [u2_self]; rfl) (fun z => by cases z)
    obtain ⟨-, b2, b3, b4, b5, b6, b7, -, b8, b9, b10⟩ := hr
    have e61 : sm_u2 (sm_u2 g 58 13 (wr + nI (nb + 1))) 58 9 0 61 = g 61 := by rw [u2_na (by decide), u2_na (by decide)]
    have e62 : sm_u2 (sm_u2 g 58 13 (wr + nI (nb + 1))) 58 9 0 62 = g 62 := by rw [u2_na (by decide), u2_na (by decide)]
    have s25 : ST (sm_u2 (sm_u2 g 58 13 (wr + nI (nb + 1))) 58 9 0) 25 pd.2.2 := ⟨by rw [u2_ne (Or.inl (by decide)), u2_ne (Or.inl (by decide))]; exact a4.1, a4.2.1, fun j hj => by rw [u2_ne (Or.inl (by decide)), u2_ne (Or.inl (by decide))]; exact a4.2.2 j hj⟩
    refine c_enter (rv := pd) (by omega) hF b4 a8 s25 (by rw [e61]; exact a5) a7 (by rw [e62]; exact a6) (fun g5 r5 s5 o5 j5 => ?_)
    refine f_Model_recover_76 hF (k g5 ⟨hK, by rw [j5 5 (by decide)]; exact b2, s5 24 D (by decide) b3, r5, by rw [j5 10 (by decide)]; exact b5, by rw [j5 13 (by decide)]; exact b6, by rw [j5 9 (by decide)]; exact b7, fun z => (by cases z), b8, by rw [j5 21 (by decide)]; exact b9, fun j hj => by rw [o5 70 (by decide) (by decide) (by decide) (by decide) (by decide)]; exact b10 j hj⟩)
  · have hdt := dwt q
    obtain ⟨a1, a2, a3, a4, a5, a6, a7, a8⟩ := hpd hdt
    have hcl : cl = true := by
      have : ¬ cl = false := fun z => q2 (by rw [a1]; exact zB_0.mpr z)
      simpa using this
    rw [a2, nI_1] at q3
    rw [if_neg (by rintro (z | z); rw [hdt] at z; cases z; exact absurd q1 (Int32.not_le.mpr z)), if_pos hcl, if_neg q3] at k
    refine k _ (upd _ _ _ (fun a ha => u2_na ha) (fun j h1 h2 => u2_ne (Or.inr h1)) ?_ ?_ (fun z => z))
    · rw [u2_self, hwr]
    · rw [u2_ne (Or.inr (by decide))]; exact hdw
  · rw [if_pos (Or.inr (Int32.not_le.mp q1))] at k
    exact k g h0
end MODO
