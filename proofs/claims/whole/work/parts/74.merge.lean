/-! the class: spans, and what merging puts out -/
def TL (H : AH) (t : Nat) : Prop := TO H t ∧ gr H t 0 = t + 1 ∧ gr H t 1 = t + 2
theorem TL.k {H : AH} {t : Nat} (h : TL H t) : (kd H t).1 = 28 ∧ kd H (t + 1) = (2, 40) ∧ kd H (t + 2) = (1, 42) := ⟨h.1.1, by have := h.1.2.1; rw [h.2.1] at this; exact this, by have := h.1.2.2; rw [h.2.2] at this; exact this⟩
theorem TX.of {H : AH} {g g' : Nat → Nat → Int32} {t : Nat} {l : Tx} (h : TX H g t l) (hL : TL H t) (h1 : g' t = g t) (h2 : g' (t + 1) = g (t + 1)) (h3 : g' (t + 2) = g (t + 2)) : TX H g' t l := h.fr h1 (by rw [hL.2.1]; exact h2) (by rw [hL.2.2]; exact h3)
theorem TL.sep {H : AH} {t s : Nat} (h : TL H t) (h' : TL H s) (hne : t ≠ s) : ∀ a b, a ≤ 2 → b ≤ 2 → t + a ≠ s + b := by
  obtain ⟨k1, k2, k3⟩ := h.k
  obtain ⟨j1, j2, j3⟩ := h'.k
  intro a b ha hb e
  have ea : a = 0 ∨ a = 1 ∨ a = 2 := by omega
  have eb : b = 0 ∨ b = 1 ∨ b = 2 := by omega
  rcases ea with rfl | rfl | rfl <;> rcases eb with rfl | rfl | rfl
  · exact hne e
  · rw [show t = s + 1 from e, j2] at k1; simp at k1
  · rw [show t = s + 2 from e, j3] at k1; simp at k1
  · rw [e, show s + 0 = s from rfl] at k2; rw [k2] at j1; simp at j1
  · omega
  · rw [e, j3] at k2; simp at k2
  · rw [e, show s + 0 = s from rfl] at k3; rw [k3] at j1; simp at j1
  · rw [e, j2] at k3; simp at k3
  · omega
theorem TX.tf {H : AH} {g g' : Nat → Nat → Int32} {t s : Nat} {l : Tx} (h : TX H g t l) (hL : TL H t) (hS : TL H s) (hne : t ≠ s) (hf : TF H s g g') : TX H g' t l := by
  have z : ∀ a, a ≤ 2 → g' (t + a) = g (t + a) := fun a ha => hf _ (hL.sep hS hne a 0 ha (by decide)) (by rw [hS.2.1]; exact hL.sep hS hne a 1 ha (by decide)) (by rw [hS.2.2]; exact hL.sep hS hne a 2 ha (by decide))
  exact h.of hL (z 0 (by decide)) (z 1 (by decide)) (z 2 (by decide))
theorem Fix.tl {H : AH} (hF : Fix H) (t : Nat) (h1 : fKA t = some (28, 0)) (h2 : fKA (t + 1) = some (2, 40)) (h3 : fKA (t + 2) = some (1, 42)) (h4 : lk2 fRL t 0 = some (t + 1)) (h5 : lk2 fRL t 1 = some (t + 2)) : TL H t := by
  have e0 := hF.r t 0 _ h4
  have e1 := hF.r t 1 _ h5
  exact ⟨⟨by rw [hF.2.1 t _ h1], by rw [e0]; exact hF.2.1 _ _ h2, by rw [e1]; exact hF.2.1 _ _ h3⟩, e0, e1⟩
theorem Fix.t36 {H : AH} (hF : Fix H) : TL H 36 := hF.tl 36 rfl rfl rfl rfl rfl
theorem Fix.t20 {H : AH} (hF : Fix H) : TL H 20 := hF.tl 20 rfl rfl rfl rfl rfl
theorem Fix.t23 {H : AH} (hF : Fix H) : TL H 23 := hF.tl 23 rfl rfl rfl rfl rfl
/-- no part of a text: an object of another class -/
theorem TL.nc {H : AH} {t a : Nat} (h : TL H t) (h1 : (kd H a).1 ≠ 28) (h2 : (kd H a).1 ≠ 2) (h3 : (kd H a).1 ≠ 1) : ∀ b, b ≤ 2 → t + b ≠ a := by
  obtain ⟨k1, k2, k3⟩ := h.k
  intro b hb e
  have eb : b = 0 ∨ b = 1 ∨ b = 2 := by omega
  subst e
  rcases eb with rfl | rfl | rfl
  · exact h1 k1
  · rw [k2] at h2; exact h2 rfl
  · rw [k3] at h3; exact h3 rfl
/-- the merger's text and flags alone are changed -/
def XM (g g' : Nat → Nat → Int32) : Prop := ∀ a, a ≠ 30 → a ≠ 36 → a ≠ 37 → a ≠ 38 → g' a = g a
theorem XM.rf {g : Nat → Nat → Int32} : XM g g := fun _ _ _ _ _ => rfl
theorem XM.trans {g g' g'' : Nat → Nat → Int32} (h : XM g g') (h2 : XM g' g'') : XM g g'' := fun a a1 a2 a3 a4 => by rw [h2 a a1 a2 a3 a4, h a a1 a2 a3 a4]
theorem TX.xm {H : AH} {g g' : Nat → Nat → Int32} {t : Nat} {l : Tx} (h : TX H g t l) (hF : Fix H) (hL : TL H t) (hne : t ≠ 36) (hf : XM g g') : TX H g' t l := by
  have z : ∀ a, a ≤ 2 → g' (t + a) = g (t + a) := fun a ha => hf _ (hL.nc (by rw [hF.c 30 23 rfl]; decide) (by rw [hF.c 30 23 rfl]; decide) (by rw [hF.c 30 23 rfl]; decide) a ha) (hL.sep hF.t36 hne a 0 ha (by decide)) (hL.sep hF.t36 hne a 1 ha (by decide)) (hL.sep hF.t36 hne a 2 ha (by decide))
  exact h.of hL (z 0 (by decide)) (z 1 (by decide)) (z 2 (by decide))
/-- T has been put out, of which forty characters are kept -/
def MG (H : AH) (g : Nat → Nat → Int32) (b : Bool) (T : Tx) : Prop := TX H g 36 (T.take 40) ∧ g 30 8 = zB (decide (40 < T.length)) ∧ g 30 7 = zB b
theorem em_1 (b : Bool) (w : Ln) : em b [w] = (if b = true then [10] else []) ++ w := by simp [em]
section MRG
variable {d : Nat} {Q : Option AV → AH → Prop} {H : AH} {g : Nat → Nat → Int32} {t s s2 : Nat} {l l2 : Tx} {x : Int32} {b : Bool} {T : Tx}
theorem x_poc (hd : 2 ≤ d) (hF : Fix H) (h : MG H g b T) (hc : okc x) (k : ∀ g', MG H g' b (T ++ [x]) → XM g g' → Q none (wi H g')) : cwp d 35 [vR 30, vI x] (wi H g) Q := by
  obtain ⟨m1, m2, m3⟩ := h
  have hL := hF.t36
  have hlen : (T.take 40).length = min 40 T.length := List.length_take
  have hTF : ∀ g', TF H 36 g g' → g' 30 = g 30 ∧ XM g g' := fun g' hf => by
    unfold TF at hf
    rw [hL.2.1, hL.2.2] at hf
    exact ⟨hf 30 (by decide) (by decide) (by decide), fun a _ a2 a3 a4 => hf a a2 a3 a4⟩
  refine e_Merger_putOutCharacter (by omega) (hF.c 30 23 rfl) (f_Merger_putOutCharacter_0 hF (x_append (by omega) hL.1 m1 hc (fun q => ?_) (fun q g' hX hf => ?_)))
  · have hT : 40 ≤ T.length := by omega
    refine f_Merger_putOutCharacter_8 hF (fun z => absurd rfl z) (fun _ => k _ ⟨?_, ?_, ?_⟩ (fun a a1 _ _ _ => u2_na a1))
    · rw [List.take_append_of_le_length hT]
      exact m1.of hL (u2_na (by decide)) (u2_na (by decide)) (u2_na (by decide))
    · rw [u2_self, decide_eq_true (by rw [List.length_append]; show 40 < T.length + 1; omega)]; rfl
    · rw [u2_ne (Or.inr (by decide))]; exact m3
  · have hT : T.length < 40 := by omega
    obtain ⟨h30, hxm⟩ := hTF g' hf
    refine f_Merger_putOutCharacter_8 hF (fun _ => k g' ⟨?_, ?_, by rw [h30]; exact m3⟩ hxm) (fun z => absurd z (by decide))
    · rw [List.take_of_length_le (show T.length ≤ 40 by omega)] at hX
      rw [List.take_of_length_le (by rw [List.length_append]; show T.length + 1 ≤ 40; omega)]
      exact hX
    · rw [h30, m2, decide_eq_false (by omega), decide_eq_false (by rw [List.length_append]; show ¬ 40 < T.length + 1; omega)]
theorem x_pol {i : Nat} (hd : 3 ≤ d) (hF : Fix H) (hL : TL H t) (hne : t ≠ 36) (hX : TX H g t l) (hi : i < nLn l) (h : MG H g b T) (k : ∀ g', MG H g' true (T ++ em b [lnx (tf l) l.length i]) → XM g g' → Q none (wi H g')) : cwp d 34 [vR 30, vR t, vI (nI i)] (wi H g) Q := by
  have hl := hX.2.1
  have hn := nLn_le l
  obtain ⟨e1, e2, -⟩ := eLn_spec hi
  have hlen : (lnx (tf l) l.length i).length = eLn l i - sLn l i := lnx_len _ _ _
  have loop : ∀ (m q : Nat) (g1 : Nat → Nat → Int32) (U : Tx), sLn l i + q + m = eLn l i → XM g g1 → MG H g1 true U → U ++ (lnx (tf l) l.length i).drop q = T ++ em b [lnx (tf l) l.length i] → wp (d - 1) sc_Merger_putOutLine 24 [vR 30, vR t, vI (nI i), vI (nI (sLn l i + q))] [] (wi H g1) Q := by
    intro m
    induction m with
    | zero =>
      intro q g1 U hq hx hm hU
      have hX1 := hX.xm hF hL hne hx
      have es : g1 (gr H t 1) (nI i + 1).toNatClampNeg - 1 = nI (eLn l i) := by rw [nI_1, nI_clamp (by omega), hX1.st (by omega), po_s hi, nI_sub1]
      have z : g1 (gr H t 1) (nI i + 1).toNatClampNeg - 1 ≤ nI (sLn l i + q) := by rw [es]; exact nI_le (by omega) (by omega)
      rw [List.drop_eq_nil_of_le (by rw [hlen]; omega), List.append_nil] at hU
      refine f_Merger_putOutLine_24 (by omega) hF hL.1.1 (by rw [hL.1.2.2]) (by rw [hL.1.2.2, nI_1]; exact vp_in_nI (by show _ < 42; omega) (by decide)) (fun w => absurd z w) (fun w => absurd z w) (fun w => absurd z w) (fun _ => k g1 (by rw [← hU]; exact hm) hx) (fun w => absurd z w)
    | succ m ih =>
      intro q g1 U hq hx hm hU
      have hX1 := hX.xm hF hL hne hx
      have es : g1 (gr H t 1) (nI i + 1).toNatClampNeg - 1 = nI (eLn l i) := by rw [nI_1, nI_clamp (by omega), hX1.st (by omega), po_s hi, nI_sub1]
      have z : ¬ g1 (gr H t 1) (nI i + 1).toNatClampNeg - 1 ≤ nI (sLn l i + q) := by rw [es]; exact nI_ge (by omega) (by omega)
      have ec : g1 (gr H t 0) (nI (sLn l i + q)).toNatClampNeg = tf l (sLn l i + q) := by rw [nI_clamp (by omega)]; exact hX1.2.2.2.2.1 _ (by omega)
      refine f_Merger_putOutLine_24 (by omega) hF hL.1.1 (by rw [hL.1.2.2]) (by rw [hL.1.2.2, nI_1]; exact vp_in_nI (by show _ < 42; omega) (by decide)) (fun _ => by rw [hL.1.2.1]) (fun _ => by rw [hL.1.2.1]; exact vp_in_nI (by show _ < 40; omega) (by decide)) (fun _ => by rw [ec]; exact hX.1 _ (by omega)) (fun w => absurd w z) (fun _ => ?_)
      rw [ec]
      refine x_poc (by omega) hF hm (hX.1 _ (by omega)) (fun g2 hm2 hx2 => f_Merger_putOutLine_42 hF ?_)
      rw [nI_1]
      refine ih (q + 1) g2 _ (by omega) (hx.trans hx2) hm2 ?_
      rw [← hU, List.append_assoc]
      congr 1
      have hg := lnx_get (f := tf l) (n := l.length) (i := i) (k := q) (by rw [lnx_len] at hlen; omega)
      rw [drop_q hg]
      rfl
  have beg : ∀ g1 U, XM g g1 → MG H g1 true U → U = T ++ (if b = true then [10] else []) → wp (d - 1) sc_Merger_putOutLine 24 [vR 30, vR t, vI (nI i), vI (g1 (gr H t 1) (nI i).toNatClampNeg)] [] (wi H g1) Q := fun g1 U hx hm hU => by
    have hX1 := hX.xm hF hL hne hx
    have := loop (eLn l i - sLn l i) 0 g1 U (by omega) hx hm (by rw [hU, List.drop_zero, em_1, List.append_assoc])
    rw [nI_clamp (by omega), hX1.2.2.2.2.2.1 i hi]
    exact this
  have vi : vp_in (nI i) (kd H (gr H t 1)).2 := by rw [hL.1.2.2]; exact vp_in_nI (by show _ < 42; omega) (by decide)
  have set7 : ∀ g1 U c, XM g g1 → MG H g1 c U → XM g (sm_u2 g1 30 7 1) ∧ MG H (sm_u2 g1 30 7 1) true U := fun g1 U c hx hm => ⟨hx.trans (fun a a1 _ _ _ => u2_na a1), hm.1.of hF.t36 (u2_na (by decide)) (u2_na (by decide)) (u2_na (by decide)), by rw [u2_ne (Or.inr (by decide))]; exact hm.2.1, by rw [u2_self]; rfl⟩
  refine e_Merger_putOutLine (by omega) (hF.c 30 23 rfl) (f_Merger_putOutLine_0 (by omega) hF (fun _ => hL.1.1) (fun _ => by rw [hL.1.2.2]) (fun _ => vi) (fun q => ?_) (fun q => ?_))
  · rw [h.2.2, zB_0] at q
    obtain ⟨s1, s2⟩ := set7 g T b XM.rf h
    exact beg _ T s1 s2 (by rw [q, if_neg (by decide), List.append_nil])
  · rw [h.2.2, zB_0] at q
    have q2 : b = true := by simpa using q
    refine x_poc (by omega) hF h ⟨10, by decide, rfl⟩ (fun g1 m1 x1 => f_Merger_putOutLine_13 (by omega) hF hL.1.1 (by rw [hL.1.2.2]) vi ?_)
    obtain ⟨s1, s2⟩ := set7 g1 _ b x1 m1
    exact beg _ _ s1 s2 (by rw [q2, if_pos rfl])
/-- a span of lines -/
def SP (H : AH) (g : Nat → Nat → Int32) (s t i j : Nat) : Prop := (kd H s).1 = 27 ∧ gr H s 0 = t ∧ g s 1 = nI i ∧ g s 2 = nI j
theorem SP.xm {i j : Nat} {g' : Nat → Nat → Int32} (h : SP H g s t i j) (hF : Fix H) (hf : XM g g') : SP H g' s t i j := by
  have e : g' s = g s := hf s (fun e => by have := h.1; rw [e, hF.c 30 23 rfl] at this; simp at this) (fun e => by have := h.1; rw [e, hF.c 36 28 rfl] at this; simp at this) (fun e => by have := h.1; rw [e, hF.c 37 2 rfl] at this; simp at this) (fun e => by have := h.1; rw [e, hF.c 38 1 rfl] at this; simp at this)
  exact ⟨h.1, h.2.1, by rw [e]; exact h.2.2.1, by rw [e]; exact h.2.2.2⟩
theorem x_pols {i j : Nat} (hd : 4 ≤ d) (hF : Fix H) (hS : SP H g s t i j) (hL : TL H t) (hne : t ≠ 36) (hX : TX H g t l) (hij : i ≤ j) (hj : j ≤ nLn l) (h : MG H g b T) (k : ∀ g', MG H g' (b || !(sub (LN l) i j).isEmpty) (T ++ em b (sub (LN l) i j)) → XM g g' → Q none (wi H g')) : cwp d 33 [vR 30, vR s] (wi H g) Q := by
  have hl := hX.2.1
  have hn := nLn_le l
  have loop : ∀ (m q : Nat) (g1 : Nat → Nat → Int32), q + m = j → i ≤ q → XM g g1 → MG H g1 (b || !(sub (LN l) i q).isEmpty) (T ++ em b (sub (LN l) i q)) → wp (d - 1) sc_Merger_putOutLines 5 [vR 30, vR s, vI (nI q)] [] (wi H g1) Q := by
    intro m
    induction m with
    | zero =>
      intro q g1 hq hiq hx hm
      have e : q = j := by omega
      subst e
      have hS1 := hS.xm hF hx
      exact f_Merger_putOutLines_5 hF hS.1 (fun _ => k g1 hm hx) (fun w => absurd (by rw [hS1.2.2.2]; exact Int32.le_refl _) w)
    | succ m ih =>
      intro q g1 hq hiq hx hm
      have hS1 := hS.xm hF hx
      have hql : q < nLn l := by omega
      refine f_Merger_putOutLines_5 hF hS.1 (fun w => absurd w (by rw [hS1.2.2.2]; exact nI_ge (by omega) (by omega))) (fun _ => ?_)
      rw [hS.2.1]
      refine x_pol (by omega) hF hL hne (hX.xm hF hL hne hx) hql hm (fun g2 m2 x2 => f_Merger_putOutLines_22 hF ?_)
      rw [nI_1]
      refine ih (q + 1) g2 (by omega) (by omega) (hx.trans x2) ?_
      have hs := sub_s (X := LN l) hiq (LN_get hql)
      have e1 : (b || !(sub (LN l) i (q + 1)).isEmpty) = true := by rw [hs]; simp
      have e2 : T ++ em b (sub (LN l) i (q + 1)) = T ++ em b (sub (LN l) i q) ++ em (b || !(sub (LN l) i q).isEmpty) [lnx (tf l) l.length q] := by rw [hs, em_app, List.append_assoc]
      rw [e1, e2]
      exact m2
  refine e_Merger_putOutLines (by omega) (hF.c 30 23 rfl) (f_Merger_putOutLines_0 hF hS.1 ?_)
  rw [hS.2.2.1]
  refine loop (j - i) i g (by omega) (Nat.le_refl _) XM.rf ?_
  rw [sub_0]
  simp only [List.isEmpty_nil, Bool.not_true, Bool.or_false, em, List.append_nil]
  exact h
theorem x_same {i i2 j j2 t2 : Nat} (hd : 3 ≤ d) (hS : SP H g s t i i2) (hS2 : SP H g s2 t2 j j2) (hT : TO H t) (hX : TX H g t l) (hT2 : TO H t2) (hX2 : TX H g t2 l2) (h1 : i ≤ i2) (h2 : i2 ≤ nLn l) (h3 : j ≤ j2) (h4 : j2 ≤ nLn l2) (k : ∀ r, bI (sub (LN l) i i2 = sub (LN l2) j j2) r → Q (some (vI r)) (wi H g)) : cwp d 63 [vR s, vR s2] (wi H g) Q := by
  have hl := hX.2.1
  have hl2 := hX2.2.1
  have hn := nLn_le l
  have hn2 := nLn_le l2
  have hLN := LN_len l
  have hLN2 := LN_len l2
  have se := sub_eq (X := LN l) (Y := LN l2) (i := i) (i2 := i2) (j := j) (j2 := j2) (by omega) (by omega)
  have ea : gi (wi H g) s 2 - gi (wi H g) s 1 = nI (i2 - i) := by rw [wi_gi, wi_gi, hS.2.2.1, hS.2.2.2, nI_sub h1]
  have eb : gi (wi H g) s2 2 - gi (wi H g) s2 1 = nI (j2 - j) := by rw [wi_gi, wi_gi, hS2.2.2.1, hS2.2.2.2, nI_sub h3]
  refine e_Span_same (by omega) hS.1 (t_Span_same_0 hS.1 hS2.1 (fun q => ?_) (fun q => ?_))
  · rw [ea, eb, nI_eq (by omega) (by omega)] at q
    have loop : ∀ (m z : Nat), z + m = i2 - i → (∀ v, v < z → (LN l).getD (i + v) [] = (LN l2).getD (j + v) []) → wp (d - 1) sc_Span_same 25 [vR s, vR s2, vI (nI z)] [] (wi H g) Q := by
      intro m
      induction m with
      | zero =>
        intro z hz hv
        refine t_Span_same_25 hS.1 (fun w => absurd (by rw [ea]; exact nI_le (by omega) (by omega)) w) (fun _ => k _ (Or.inl ⟨se.mpr ⟨q, fun v hv2 => hv v (by omega)⟩, rfl⟩)) (fun w => absurd (by rw [ea]; exact nI_le (by omega) (by omega)) w)
      | succ m ih =>
        intro z hz hv
        refine t_Span_same_25 hS.1 (fun _ => hS2.1) (fun w => absurd w (by rw [ea]; exact nI_ge (by omega) (by omega))) (fun _ => ?_)
        simp only [wi_gr, wi_gi]
        rw [hS.2.1, hS2.2.1, hS.2.2.1, hS2.2.2.1, nI_add, nI_add]
        refine x_sameLine (by omega) hT hX hT2 hX2 (by omega) (by omega) (fun r hr => ?_)
        rw [← LN_gD (by omega), ← LN_gD (by omega)] at hr
        refine t_Span_same_61 (fun w => ?_) (fun w => ?_)
        · rcases hr with ⟨hr, -⟩ | ⟨-, hr⟩
          · rw [nI_1]
            refine ih (z + 1) (by omega) (fun v hv2 => ?_)
            by_cases e : v = z
            · subst e; exact hr
            · exact hv v (by omega)
          · exact absurd hr w
        · rcases hr with ⟨-, hr⟩ | ⟨hr, -⟩
          · rw [hr] at w; exact absurd w (by decide)
          · exact k _ (Or.inr ⟨fun e => hr ((se.mp e).2 z (by omega)), rfl⟩)
    exact loop (i2 - i) 0 (by omega) (fun v hv => by omega)
  · rw [ea, eb, nI_eq (by omega) (by omega)] at q
    exact k _ (Or.inr ⟨fun e => q (se.mp e).1, rfl⟩)
end MRG
