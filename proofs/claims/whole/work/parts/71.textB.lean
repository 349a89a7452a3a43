/-! the class: a text's calls -/
def cpg (g : Nat → Nat → Int32) (a p b q n : Nat) : Nat → Nat → Int32 := fun c j => if c = b ∧ q ≤ j ∧ j < q + n then g a (p + (j - q)) else g c j
theorem wi_cp (H : AH) (g : Nat → Nat → Int32) (a p b q n : Nat) : cp (wi H g) a p b q n = wi H (cpg g a p b q n) := rfl
theorem cpg_na {g : Nat → Nat → Int32} {a p b q n c : Nat} (h : c ≠ b) : cpg g a p b q n c = g c := by
  funext j
  unfold cpg
  rw [if_neg (fun z => h z.1)]
theorem cpg_in {g : Nat → Nat → Int32} {a p b q n j : Nat} (h : q ≤ j) (h2 : j < q + n) : cpg g a p b q n b j = g a (p + (j - q)) := by
  unfold cpg
  rw [if_pos ⟨rfl, h, h2⟩]
theorem cpg_out {g : Nat → Nat → Int32} {a p b q n j : Nat} (h : j < q ∨ q + n ≤ j) : cpg g a p b q n b j = g b j := by
  unfold cpg
  rw [if_neg (fun z => by omega)]
section TXTB
variable {d : Nat} {Q : Option AV → AH → Prop} {H : AH} {g : Nat → Nat → Int32} {t t2 : Nat} {l l2 : Tx} {x : Int32}
theorem TX.st (h : TX H g t l) {i : Nat} (hi : i ≤ nLn l) : g (gr H t 1) i = nI (po l i) := by
  obtain ⟨x0, x1, x2, x3, x4, x5, x6⟩ := h
  rcases Nat.lt_or_ge i (nLn l) with q | q
  · rw [x5 i q, (po_lt q).1]
  · have e : i = nLn l := by omega
    rw [e, x6, po_n]
theorem x_count (hd : 1 ≤ d) (hT : TO H t) (hX : TX H g t l) (k : Q (some (vI (nI l.length))) (wi H g)) : cwp d 66 [vR t] (wi H g) Q := by
  refine s_Text_count hd hT.1 ?_
  rw [wi_gi, hX.2.2.1]
  exact k
theorem x_lineCount (hd : 1 ≤ d) (hT : TO H t) (hX : TX H g t l) (k : Q (some (vI (nI (nLn l)))) (wi H g)) : cwp d 68 [vR t] (wi H g) Q := by
  refine s_Text_lineCount hd hT.1 ?_
  rw [wi_gi, hX.2.2.2.1]
  exact k
theorem x_code {j : Nat} (hd : 1 ≤ d) (hT : TO H t) (hX : TX H g t l) (hj : j < l.length) (k : Q (some (vI (tf l j))) (wi H g)) : cwp d 67 [vR t, vI (nI j)] (wi H g) Q := by
  have hl := hX.2.1
  have e : gi (wi H g) (gr (wi H g) t 0) (nI j).toNatClampNeg = tf l j := by rw [wi_gi, wi_gr, nI_clamp (by omega)]; exact hX.2.2.2.2.1 j hj
  refine s_Text_code hd hT.1 (by rw [wi_kd, wi_gr, hT.2.1]) (by rw [wi_kd, wi_gr, hT.2.1]; exact vp_in_nI (by show _ < 40; omega) (by decide)) (by rw [e]; exact hX.1 j hj) ?_
  rw [e]
  exact k
theorem x_lineStart {i : Nat} (hd : 1 ≤ d) (hT : TO H t) (hX : TX H g t l) (hi : i < nLn l) (k : Q (some (vI (nI (sLn l i)))) (wi H g)) : cwp d 70 [vR t, vI (nI i)] (wi H g) Q := by
  have hl := hX.2.1
  have hn := nLn_le l
  refine s_Text_lineStart hd hT.1 (by rw [wi_kd, wi_gr, hT.2.2]) (by rw [wi_kd, wi_gr, hT.2.2]; exact vp_in_nI (by show _ < 42; omega) (by decide)) ?_
  rw [wi_gi, wi_gr, nI_clamp (by omega), hX.2.2.2.2.2.1 i hi]
  exact k
theorem x_lineEnd {i : Nat} (hd : 1 ≤ d) (hT : TO H t) (hX : TX H g t l) (hi : i < nLn l) (k : Q (some (vI (nI (eLn l i)))) (wi H g)) : cwp d 71 [vR t, vI (nI i)] (wi H g) Q := by
  have hl := hX.2.1
  have hn := nLn_le l
  refine s_Text_lineEnd hd hT.1 (by rw [wi_kd, wi_gr, hT.2.2]) (by rw [wi_kd, wi_gr, hT.2.2, nI_1]; exact vp_in_nI (by show _ < 42; omega) (by decide)) ?_
  rw [wi_gi, wi_gr, nI_1, nI_clamp (by omega), hX.st (by omega), po_s hi, nI_sub1]
  exact k
theorem x_lineLength {i : Nat} (hd : 1 ≤ d) (hT : TO H t) (hX : TX H g t l) (hi : i < nLn l) (k : Q (some (vI (nI (eLn l i - sLn l i)))) (wi H g)) : cwp d 72 [vR t, vI (nI i)] (wi H g) Q := by
  have hl := hX.2.1
  have hn := nLn_le l
  have h1 := (eLn_spec hi).1
  refine s_Text_lineLength hd hT.1 (by rw [wi_kd, wi_gr, hT.2.2]) (by rw [wi_kd, wi_gr, hT.2.2, nI_1]; exact vp_in_nI (by show _ < 42; omega) (by decide)) (by rw [wi_kd, wi_gr, hT.2.2]; exact vp_in_nI (by show _ < 42; omega) (by decide)) ?_
  rw [wi_gi, wi_gr, nI_1, nI_clamp (by omega), hX.st (by omega), po_s hi, nI_sub1, wi_gi, nI_clamp (by omega), hX.2.2.2.2.2.1 i hi, nI_sub h1]
  exact k
theorem x_hasLine (hd : 1 ≤ d) (hT : TO H t) (hX : TX H g t l) (kn : (∀ i, i < nLn l → x ≠ nI i) → Q (some (vI 0)) (wi H g)) (ky : ∀ i, i < nLn l → x = nI i → Q (some (vI 1)) (wi H g)) : cwp d 69 [vR t, vI x] (wi H g) Q := by
  have hl := hX.2.1
  have hn := nLn_le l
  have e3 : gi (wi H g) t 3 = nI (nLn l) := hX.2.2.2.1
  refine e_Text_hasLine hd hT.1 (t_Text_hasLine_0 (fun _ => hT.1) (fun q => kn (fun i hi e => ?_)) (fun q q2 => kn (fun i hi e => ?_)) (fun q q2 => ?_))
  · rw [e] at q
    exact absurd q (nI_pos (by omega))
  · rw [e, e3, nI_leI (by omega) (by omega)] at q2
    omega
  · obtain ⟨i, hi, rfl⟩ := nI_of q
    rw [e3, nI_leI (by omega) hi] at q2
    exact ky i (by omega) rfl
theorem lm_same {i j : Nat} (hT : TO H t) (hX : TX H g t l) (hT2 : TO H t2) (hX2 : TX H g t2 l2) (hi : i < nLn l) (hj : j < nLn l2) (hL : eLn l i - sLn l i = eLn l2 j - sLn l2 j)
    (k : ∀ r, bI (lnx (tf l) l.length i = lnx (tf l2) l2.length j) r → Q (some (vI r)) (wi H g)) :
    ∀ (m q : Nat), q + m = eLn l i - sLn l i → (∀ z, z < q → tf l (sLn l i + z) = tf l2 (sLn l2 j + z)) → wp d sc_Text_sameLine 22 [vR t, vI (nI i), vR t2, vI (nI j), vI (nI (eLn l i - sLn l i)), vI (nI q)] [] (wi H g) Q := by
  have hl := hX.2.1
  have hl2 := hX2.2.1
  have hn := nLn_le l
  have hn2 := nLn_le l2
  obtain ⟨e1, e2, -⟩ := eLn_spec hi
  obtain ⟨e3, e4, -⟩ := eLn_spec hj
  have fs : gi (wi H g) (gr (wi H g) t 1) (nI i).toNatClampNeg = nI (sLn l i) := by rw [wi_gi, wi_gr, nI_clamp (by omega), hX.2.2.2.2.2.1 i hi]
  have fs2 : gi (wi H g) (gr (wi H g) t2 1) (nI j).toNatClampNeg = nI (sLn l2 j) := by rw [wi_gi, wi_gr, nI_clamp (by omega), hX2.2.2.2.2.2.1 j hj]
  intro m
  induction m with
  | zero =>
    intro q hq hz
    have z : nI (eLn l i - sLn l i) ≤ nI q := nI_le (by omega) (by omega)
    refine t_Text_sameLine_22 (fun w => absurd z w) (fun w => absurd z w) (fun w => absurd z w) (fun w => absurd z w) (fun w => absurd z w) (fun w => absurd z w) (fun w => absurd z w) (fun w => absurd z w) (fun w => absurd z w) (fun w => absurd z w) (fun _ => k _ (Or.inl ⟨lnx_eq.mpr ⟨hL, fun v hv => hz v ?_⟩, rfl⟩)) (fun w => absurd z w) (fun w => absurd z w)
    have hv2 : v < eLn l i - sLn l i := hv
    omega
  | succ m ih =>
    intro q hq hz
    have z : ¬ nI (eLn l i - sLn l i) ≤ nI q := nI_ge (by omega) (by omega)
    have f1 : gi (wi H g) (gr (wi H g) t 0) (nI (sLn l i) + nI q).toNatClampNeg = tf l (sLn l i + q) := by rw [wi_gi, wi_gr, nI_add, nI_clamp (by omega), hX.2.2.2.2.1 _ (by omega)]
    have f2 : gi (wi H g) (gr (wi H g) t2 0) (nI (sLn l2 j) + nI q).toNatClampNeg = tf l2 (sLn l2 j + q) := by rw [wi_gi, wi_gr, nI_add, nI_clamp (by omega), hX2.2.2.2.2.1 _ (by omega)]
    refine t_Text_sameLine_22 (fun _ => hT.1) (fun _ => by rw [wi_kd, wi_gr, hT.2.2]) (fun _ => by rw [wi_kd, wi_gr, hT.2.2]; exact vp_in_nI (by show _ < 42; omega) (by decide)) (fun _ => by rw [wi_kd, wi_gr, hT.2.1]) (fun _ => by rw [fs, wi_kd, wi_gr, hT.2.1, nI_add]; exact vp_in_nI (by show _ < 40; omega) (by decide)) (fun _ => hT2.1) (fun _ => by rw [wi_kd, wi_gr, hT2.2.2]) (fun _ => by rw [wi_kd, wi_gr, hT2.2.2]; exact vp_in_nI (by show _ < 42; omega) (by decide)) (fun _ => by rw [wi_kd, wi_gr, hT2.2.1]) (fun _ => by rw [fs2, wi_kd, wi_gr, hT2.2.1, nI_add]; exact vp_in_nI (by show _ < 40; omega) (by decide)) (fun w => absurd w z) (fun _ w => ?_) (fun _ w => ?_)
    · rw [fs, fs2, f1, f2] at w
      rw [nI_1]
      refine ih (q + 1) (by omega) (fun v hv => ?_)
      by_cases e : v = q
      · subst e; exact w
      · exact hz v (by omega)
    · rw [fs, fs2, f1, f2] at w
      refine k _ (Or.inr ⟨fun e => w ((lnx_eq.mp e).2 q ?_), rfl⟩)
      show q < eLn l i - sLn l i
      omega
theorem x_sameLine {i j : Nat} (hd : 2 ≤ d) (hT : TO H t) (hX : TX H g t l) (hT2 : TO H t2) (hX2 : TX H g t2 l2) (hi : i < nLn l) (hj : j < nLn l2) (k : ∀ r, bI (lnx (tf l) l.length i = lnx (tf l2) l2.length j) r → Q (some (vI r)) (wi H g)) : cwp d 78 [vR t, vI (nI i), vR t2, vI (nI j)] (wi H g) Q := by
  have hl := hX.2.1
  have hl2 := hX2.2.1
  have hn := nLn_le l
  have hn2 := nLn_le l2
  obtain ⟨e1, e2, -⟩ := eLn_spec hi
  obtain ⟨e3, e4, -⟩ := eLn_spec hj
  have fa : gi (wi H g) (gr (wi H g) t 1) (nI i + 1).toNatClampNeg - 1 - gi (wi H g) (gr (wi H g) t 1) (nI i).toNatClampNeg = nI (eLn l i - sLn l i) := by
    rw [wi_gi, wi_gr, nI_1, nI_clamp (by omega), hX.st (by omega), po_s hi, nI_sub1, wi_gi, nI_clamp (by omega), hX.2.2.2.2.2.1 i hi, nI_sub e1]
  have fb : gi (wi H g) (gr (wi H g) t2 1) (nI j + 1).toNatClampNeg - 1 - gi (wi H g) (gr (wi H g) t2 1) (nI j).toNatClampNeg = nI (eLn l2 j - sLn l2 j) := by
    rw [wi_gi, wi_gr, nI_1, nI_clamp (by omega), hX2.st (by omega), po_s hj, nI_sub1, wi_gi, nI_clamp (by omega), hX2.2.2.2.2.2.1 j hj, nI_sub e3]
  refine e_Text_sameLine (by omega) hT.1 (t_Text_sameLine_0 (by omega) hT.1 (by rw [wi_kd, wi_gr, hT.2.2]) (by rw [wi_kd, wi_gr, hT.2.2, nI_1]; exact vp_in_nI (by show _ < 42; omega) (by decide)) (by rw [wi_kd, wi_gr, hT.2.2]; exact vp_in_nI (by show _ < 42; omega) (by decide)) hT2.1 (by rw [wi_kd, wi_gr, hT2.2.2]) (by rw [wi_kd, wi_gr, hT2.2.2, nI_1]; exact vp_in_nI (by show _ < 42; omega) (by decide)) (by rw [wi_kd, wi_gr, hT2.2.2]; exact vp_in_nI (by show _ < 42; omega) (by decide)) (fun q => ?_) (fun q => ?_))
  · rw [fa, fb, nI_eq (by omega) (by omega)] at q
    rw [fa]
    exact lm_same hT hX hT2 hX2 hi hj q k (eLn l i - sLn l i) 0 (by omega) (fun z hz => by omega)
  · rw [fa, fb, nI_eq (by omega) (by omega)] at q
    exact k _ (Or.inr ⟨fun e => q (lnx_eq.mp e).1, rfl⟩)
/-- the lines are found anew behind a change of the codes -/
theorem lm_again {g1 : Nat → Nat → Int32} (hd : 1 ≤ d) (hT : TO H t) (hX : TX H g t l) (ho : okT l2) (hl : l2.length ≤ 40) (h2 : g1 t 2 = nI l2.length) (hf : ∀ j, j < l2.length → g1 (gr H t 0) j = tf l2 j) (hs : g1 (gr H t 1) = g (gr H t 1)) (hfr : TF H t g g1)
    (k : ∀ g', TX H g' t l2 → TF H t g g' → Q none (wi H g')) : cwp d 79 [vR t] (wi H g1) Q :=
  x_findLines hd hT ho hl h2 hf (by rw [hs]; exact hX.s0) (fun g' h1 h3 => k g' h1 (fun a a1 a2 a3 => by rw [h3 a a1 a3, hfr a a1 a2 a3]))
theorem x_makeEmpty (hd : 2 ≤ d) (hT : TO H t) (hX : TX H g t l) (k : ∀ g', TX H g' t [] → TF H t g g' → Q none (wi H g')) : cwp d 76 [vR t] (wi H g) Q := by
  refine e_Text_makeEmpty (by omega) hT.1 (t_Text_makeEmpty_0 hT.1 ?_)
  rw [wi_si]
  refine lm_again (by omega) hT hX (fun j hj => by simp at hj) (by simp) u2_self (fun j hj => by simp at hj) (by rw [u2_na (Ne.symm hT.ne1)]) (fun a a1 _ _ => u2_na a1) (fun g' h1 h2 => t_Text_makeEmpty_9 (k g' h1 h2))
theorem x_copyFrom (hd : 2 ≤ d) (hT : TO H t) (hX : TX H g t l) (hT2 : TO H t2) (hX2 : TX H g t2 l2) (hne : t ≠ t2) (k : ∀ g', TX H g' t l2 → TF H t g g' → Q none (wi H g')) : cwp d 77 [vR t, vR t2] (wi H g) Q := by
  have hl2 := hX2.2.1
  have f2 : gi (wi H g) t2 2 = nI l2.length := hX2.2.2.1
  have ne : t2 ≠ gr H t 0 := fun e => by
    have h1 := hT2.1
    rw [e, hT.2.1] at h1
    simp at h1
  have c2 : (nI l2.length).toNatClampNeg = l2.length := nI_clamp (by omega)
  refine e_Text_copyFrom (by omega) hT.1 (t_Text_copyFrom_0 hT2.1 hT.1 (by rw [wi_kd, wi_gr, hT2.2.1]) (by rw [wi_kd, wi_gr, hT.2.1]) (by rw [f2]; exact nI_pos (by omega)) (by rw [f2, wi_kd, wi_gr, hT2.2.1, c2]; show _ ≤ 40; omega) (by rw [f2, wi_kd, wi_gr, hT.2.1, c2]; show _ ≤ 40; omega) ?_)
  rw [f2, c2]
  simp only [wi_cp, wi_si, wi_gi, wi_gr]
  rw [cpg_na ne, hX2.2.2.1]
  refine lm_again (by omega) hT hX hX2.1 hl2 u2_self (fun j hj => ?_) (by rw [u2_na (Ne.symm hT.ne1), cpg_na (Ne.symm hT.ne2)]) (fun a a1 a2 _ => by rw [u2_na a1, cpg_na a2]) (fun g' h1 h2 => t_Text_copyFrom_29 (k g' h1 h2))
  rw [hT.A2, cpg_in (by omega) (by omega), Nat.zero_add, Nat.sub_zero]
  exact hX2.2.2.2.2.1 j hj
theorem x_insert {p : Nat} (hd : 2 ≤ d) (hT : TO H t) (hX : TX H g t l) (hp : p ≤ l.length) (hc : okc x) (kn : 40 ≤ l.length → Q (some (vI 0)) (wi H g)) (ky : l.length < 40 → ∀ g', TX H g' t (ins l p x) → TF H t g g' → Q (some (vI 1)) (wi H g')) : cwp d 74 [vR t, vI (nI p), vI x] (wi H g) Q := by
  have hl := hX.2.1
  have f2 : gi (wi H g) t 2 = nI l.length := hX.2.2.1
  have e40 : gi (wi H g) t 2 < 40 ↔ l.length < 40 := by rw [f2, show (40 : Int32) = nI 40 from rfl, nI_ltI (by omega) (by decide)]
  have c1 : (nI p).toNatClampNeg = p := nI_clamp (by omega)
  have c2 : (nI (p + 1)).toNatClampNeg = p + 1 := nI_clamp (by omega)
  have c3 : (nI (l.length - p)).toNatClampNeg = l.length - p := nI_clamp (by omega)
  refine e_Text_insert (by omega) hT.1 (t_Text_insert_0 hT.1 (fun _ => by rw [wi_kd, wi_gr, hT.2.1]) (fun _ => nI_pos (by omega)) (fun _ => by rw [nI_1]; exact nI_pos (by omega)) (fun _ => by rw [f2, nI_sub hp]; exact nI_pos (by omega)) (fun q => ?_) (fun q => ?_) (fun q => ?_) (fun q => ?_) (fun q => kn (by rw [e40] at q; omega)))
  · rw [wi_kd, wi_gr, hT.2.1, f2, nI_sub hp, c1, c3]
    show _ ≤ 40
    omega
  · rw [e40] at q
    rw [wi_kd, wi_gr, hT.2.1, f2, nI_sub hp, nI_1, c2, c3]
    show _ ≤ 40
    omega
  · rw [e40] at q
    rw [wi_kd, wi_gr, hT.2.1]
    exact vp_in_nI (by show _ < 40; omega) (by decide)
  · rw [e40] at q
    rw [f2, nI_sub hp, nI_1, c1, c2, c3, nar_ok hc]
    simp only [wi_cp, wi_si, wi_gi, wi_gr]
    rw [hT.A0, cpg_na hT.ne0, hX.2.2.1, nI_1]
    have hil : (ins l p x).length = l.length + 1 := ins_len hp
    refine lm_again (by omega) hT hX (fun j hj => ?_) (by rw [hil]; omega) (by rw [u2_self, hil]) (fun j hj => ?_) (by rw [u2_na (Ne.symm hT.ne1), u2_na (Ne.symm hT.ne2), cpg_na (Ne.symm hT.ne2)]) (fun a a1 a2 _ => by rw [u2_na a1, u2_na a2, cpg_na a2]) (fun g' h1 h2 => t_Text_insert_53 (ky q g' h1 h2))
    · rw [hil] at hj
      rw [ins_tf hp]
      split
      · exact hX.1 j (by omega)
      · split
        · exact hc
        · exact hX.1 _ (by omega)
    · rw [hil] at hj
      rw [hT.A2, ins_tf hp]
      split
      · rename_i h1
        rw [u2_ne (Or.inr (by omega)), cpg_out (by omega)]
        exact hX.2.2.2.2.1 j (by omega)
      · split
        · rename_i h1 h2
          subst h2
          rw [u2_self]
        · rename_i h1 h2
          rw [u2_ne (Or.inr h2), cpg_in (by omega) (by omega), show p + (j - (p + 1)) = j - 1 by omega]
          exact hX.2.2.2.2.1 _ (by omega)
theorem lm_cut {a b : Nat} (hd : 1 ≤ d) (hT : TO H t) (hX : TX H g t l) (hab : a ≤ b) (hb : b ≤ l.length) (k : ∀ g', TX H g' t (cutl l a b) → TF H t g g' → Q none (wi H g')) : cwp d 79 [vR t] (wi H (sm_u2 (cpg g (gr H t 0) b (gr H t 0) a (l.length - b)) t 2 (nI (l.length - (b - a))))) Q := by
  have hl := hX.2.1
  have hcl := cutl_len hab hb
  refine lm_again hd hT hX (fun j hj => ?_) (by rw [hcl]; omega) (by rw [u2_self, hcl]) (fun j hj => ?_) (by rw [u2_na (Ne.symm hT.ne1), cpg_na (Ne.symm hT.ne2)]) (fun a a1 a2 _ => by rw [u2_na a1, cpg_na a2]) k
  · rw [hcl] at hj
    rw [cutl_tf hab hb]
    split
    · exact hX.1 j (by omega)
    · exact hX.1 _ (by omega)
  · rw [hcl] at hj
    rw [hT.A2, cutl_tf hab hb]
    split
    · rw [cpg_out (by omega)]
      exact hX.2.2.2.2.1 j (by omega)
    · rw [cpg_in (by omega) (by omega), show b + (j - a) = j + (b - a) by omega]
      exact hX.2.2.2.2.1 _ (by omega)
theorem x_takeOut {i : Nat} (hd : 2 ≤ d) (hT : TO H t) (hX : TX H g t l) (hi : i < nLn l) (k : ∀ g', TX H g' t (cutl l (dpA l i) (dpB l i)) → TF H t g g' → Q none (wi H g')) : cwp d 75 [vR t, vI (nI i)] (wi H g) Q := by
  have hl := hX.2.1
  have hn := nLn_le l
  obtain ⟨e1, e2, e3, e4, e5⟩ := eLn_spec hi
  have hcn : cnt (tf l) l.length + 1 = nLn l := rfl
  have f2 : gi (wi H g) t 2 = nI l.length := hX.2.2.1
  have f3 : gi (wi H g) t 3 = nI (nLn l) := hX.2.2.2.1
  have fs : gi (wi H g) (gr (wi H g) t 1) (nI i).toNatClampNeg = nI (sLn l i) := by rw [wi_gi, wi_gr, nI_clamp (by omega), hX.2.2.2.2.2.1 i hi]
  have fs1 : gi (wi H g) (gr (wi H g) t 1) (nI i + 1).toNatClampNeg = nI (eLn l i + 1) := by rw [wi_gi, wi_gr, nI_1, nI_clamp (by omega), hX.st (by omega), po_s hi]
  have k0 : kd (wi H g) (gr (wi H g) t 0) = (2, 40) := hT.2.1
  have k1 : kd (wi H g) (gr (wi H g) t 1) = (1, 42) := hT.2.2
  have ex : nI i = gi (wi H g) t 3 - 1 ↔ i + 1 = nLn l := by
    rw [f3, show nLn l = (nLn l - 1) + 1 by omega, nI_sub1, nI_eq (by omega) (by omega)]
    omega
  have e0 : nI i ≤ 0 ↔ i = 0 := by rw [show (0 : Int32) = nI 0 from rfl, nI_leI (by omega) (by decide)]; omega
  have cl : ∀ n, n ≤ 50 → (nI n).toNatClampNeg = n := fun n hn => nI_clamp (by omega)
  have es : sLn l i - 1 + 1 = sLn l i ∨ i = 0 := by
    by_cases z : i = 0
    · exact Or.inr z
    · have := ls_lt (f := tf l) (n := l.length) (i := 0) (j := i) (by omega) (by omega)
      unfold sLn
      omega
  refine e_Text_takeOut (by omega) hT.1 (t_Text_takeOut_0 hT.1 (fun _ => by rw [k1]) (fun _ => by rw [k1]; exact vp_in_nI (by show _ < 42; omega) (by decide)) (fun _ => by rw [k1, nI_1]; exact vp_in_nI (by show _ < 42; omega) (by decide)) (fun _ => by rw [k0]) (fun _ => by rw [fs1]; exact nI_pos (by omega)) (fun _ => by rw [fs]; exact nI_pos (by omega)) (fun q => ?_) (fun q => ?_) (fun q => ?_) (fun _ _ => by rw [k1]) (fun _ _ => by rw [k1]; exact vp_in_nI (by show _ < 42; omega) (by decide)) (fun _ _ => by rw [k0]) (fun _ _ => by rw [f2]; exact nI_pos (by omega)) (fun _ _ => by rw [fs]; exact nI_pos (by omega)) (fun _ _ => by rw [f2, nI_sub (Nat.le_refl _)]; exact nI_pos (by omega)) (fun _ _ => by rw [f2, nI_sub (Nat.le_refl _), k0, cl _ (by omega), cl _ (by omega)]; show _ ≤ 40; omega) (fun _ _ => by rw [f2, fs, nI_sub (Nat.le_refl _), k0, cl _ (by omega), cl _ (by omega)]; show _ ≤ 40; omega) (fun _ _ => by rw [k1]) (fun _ _ => by rw [k1]; exact vp_in_nI (by show _ < 42; omega) (by decide)) (fun _ _ => by rw [k0]) (fun _ _ => by rw [f2]; exact nI_pos (by omega)) (fun _ q => ?_) (fun _ _ => by rw [f2, nI_sub (Nat.le_refl _)]; exact nI_pos (by omega)) (fun _ _ => by rw [f2, nI_sub (Nat.le_refl _), k0, cl _ (by omega), cl _ (by omega)]; show _ ≤ 40; omega) (fun _ q => ?_) (fun q => ?_) (fun q q2 => ?_) (fun q q2 => ?_))
  · rw [ex] at q
    have := e4 (by omega)
    rw [f2, fs1, nI_sub (by omega)]
    exact nI_pos (by omega)
  · rw [ex] at q
    have := e4 (by omega)
    rw [f2, fs1, nI_sub (by omega), k0, cl _ (by omega), cl _ (by omega)]
    show _ ≤ 40
    omega
  · rw [ex] at q
    have := e4 (by omega)
    rw [f2, fs, fs1, nI_sub (by omega), k0, cl _ (by omega), cl _ (by omega)]
    show _ ≤ 40
    omega
  · rw [e0] at q
    rw [fs, show sLn l i = (sLn l i - 1) + 1 by omega, nI_sub1]
    exact nI_pos (by omega)
  · rw [e0] at q
    rw [f2, fs, show sLn l i = (sLn l i - 1) + 1 by omega, nI_sub1, nI_sub (Nat.le_refl _), k0, cl _ (by omega), cl _ (by omega)]
    show _ ≤ 40
    omega
  · rw [ex] at q
    have h4 := e4 (by omega)
    rw [fs, fs1, f2, nI_sub (by omega), nI_sub (by omega), cl _ (by omega), cl _ (by omega), cl _ (by omega)]
    simp only [wi_cp, wi_si, wi_gi, wi_gr]
    rw [cpg_na hT.ne0, hX.2.2.1, nI_sub (by omega)]
    have eA : dpA l i = sLn l i := by unfold dpA; rw [if_pos (by omega)]
    have eB : dpB l i = eLn l i + 1 := by unfold dpB; rw [if_pos (by omega)]
    refine lm_cut (by omega) hT hX (by omega) (by omega) (fun g' h1 h2 => t_Text_takeOut_101 (k g' (by rw [eA, eB]; exact h1) h2))
  · rw [ex] at q
    rw [e0] at q2
    have h5 := e5 (by omega)
    rw [fs, f2, nI_sub (Nat.le_refl _), nI_sub (by omega), cl _ (by omega), cl _ (by omega), cl _ (by omega)]
    simp only [wi_cp, wi_si, wi_gi, wi_gr]
    rw [cpg_na hT.ne0, hX.2.2.1, nI_sub (by omega)]
    have eA : dpA l i = sLn l i := by unfold dpA; rw [if_neg (by omega), if_neg (by omega)]
    have eB : dpB l i = l.length := by unfold dpB; rw [if_neg (by omega), h5]
    refine lm_cut (by omega) hT hX (by omega) (by omega) (fun g' h1 h2 => t_Text_takeOut_101 (k g' (by rw [eA, eB]; exact h1) h2))
  · rw [ex] at q
    rw [e0] at q2
    have h5 := e5 (by omega)
    have e8 : nI (sLn l i) - 1 = nI (sLn l i - 1) := by rw [show (1 : Int32) = nI 1 from rfl, nI_sub (by omega)]
    rw [fs, e8, f2, nI_sub (Nat.le_refl _), nI_sub (by omega), cl _ (by omega), cl _ (by omega), cl _ (by omega)]
    simp only [wi_cp, wi_si, wi_gi, wi_gr]
    rw [cpg_na hT.ne0, hX.2.2.1, nI_sub (by omega)]
    have eA : dpA l i = sLn l i - 1 := by unfold dpA; rw [if_neg (by omega), if_pos (by omega)]
    have eB : dpB l i = l.length := by unfold dpB; rw [if_neg (by omega), h5]
    refine lm_cut (by omega) hT hX (by omega) (by omega) (fun g' h1 h2 => t_Text_takeOut_101 (k g' (by rw [eA, eB]; exact h1) h2))
end TXTB
