/-! the class: texts -/
def TO (H : AH) (t : Nat) : Prop := (kd H t).1 = 28 ∧ kd H (gr H t 0) = (2, 40) ∧ kd H (gr H t 1) = (1, 42)
theorem TO.ne0 {H : AH} {t : Nat} (h : TO H t) : t ≠ gr H t 0 := fun e => by
  have h1 := h.1
  rw [e, h.2.1] at h1
  simp at h1
theorem TO.ne1 {H : AH} {t : Nat} (h : TO H t) : t ≠ gr H t 1 := fun e => by
  have h1 := h.1
  rw [e, h.2.2] at h1
  simp at h1
theorem TO.ne2 {H : AH} {t : Nat} (h : TO H t) : gr H t 0 ≠ gr H t 1 := fun e => by
  have h1 := h.2.1
  rw [e, h.2.2] at h1
  simp at h1
theorem TO.A0 {H : AH} {t : Nat} (h : TO H t) (G : Nat → Nat → Int32) (k j : Nat) (x : Int32) : sm_u2 G (gr H t 0) k x t j = G t j := u2_ne (Or.inl h.ne0)
theorem TO.A1 {H : AH} {t : Nat} (h : TO H t) (G : Nat → Nat → Int32) (k j : Nat) (x : Int32) : sm_u2 G (gr H t 1) k x t j = G t j := u2_ne (Or.inl h.ne1)
theorem TO.A2 {H : AH} {t : Nat} (h : TO H t) (G : Nat → Nat → Int32) (k j : Nat) (x : Int32) : sm_u2 G t k x (gr H t 0) j = G (gr H t 0) j := u2_ne (Or.inl (Ne.symm h.ne0))
theorem TO.A3 {H : AH} {t : Nat} (h : TO H t) (G : Nat → Nat → Int32) (k j : Nat) (x : Int32) : sm_u2 G t k x (gr H t 1) j = G (gr H t 1) j := u2_ne (Or.inl (Ne.symm h.ne1))
theorem TO.A4 {H : AH} {t : Nat} (h : TO H t) (G : Nat → Nat → Int32) (k j : Nat) (x : Int32) : sm_u2 G (gr H t 1) k x (gr H t 0) j = G (gr H t 0) j := u2_ne (Or.inl h.ne2)
theorem TO.A5 {H : AH} {t : Nat} (h : TO H t) (G : Nat → Nat → Int32) (k j : Nat) (x : Int32) : sm_u2 G (gr H t 0) k x (gr H t 1) j = G (gr H t 1) j := u2_ne (Or.inl (Ne.symm h.ne2))
theorem B32 {t : Nat} (G : Nat → Nat → Int32) (x : Int32) : sm_u2 G t 3 x t 2 = G t 2 := u2_ne (Or.inr (by decide))
theorem B23 {t : Nat} (G : Nat → Nat → Int32) (x : Int32) : sm_u2 G t 2 x t 3 = G t 3 := u2_ne (Or.inr (by decide))
abbrev okc (x : Int32) : Prop := ∃ n : Nat, n < 65536 ∧ x = nI n
theorem nar_ok {x : Int32} (h : okc x) : vp_nar .char x = x := by
  obtain ⟨n, hn, rfl⟩ := h
  unfold vp_nar
  rw [(pk_charN hn).1]
theorem cnt_app {l : Tx} {x : Int32} {k : Nat} (h : k ≤ l.length) : cnt (tf (l ++ [x])) k = cnt (tf l) k := cnt_congr (n := l.length) (fun j hj => tf_app1 hj) k h
theorem nLn_app {l : Tx} {x : Int32} : nLn (l ++ [x]) = nLn l + (if x = 10 then 1 else 0) := by
  unfold nLn
  rw [len_app, cnt_s, cnt_app (Nat.le_refl _), tf_app2]
  omega
theorem sLn_app {l : Tx} {x : Int32} {i : Nat} (h : i < nLn l) : sLn (l ++ [x]) i = sLn l i := by
  unfold sLn nLn at *
  obtain ⟨h1, h2, h3⟩ := ls_spec (f := tf l) (n := l.length) (i := i) (by omega)
  refine ls_uniq (by rw [len_app]; omega) (by rw [cnt_app h1]; exact h2) (fun j hj => by rw [cnt_app (by omega)]; exact h3 j hj)
theorem sLn_app2 {l : Tx} : sLn (l ++ [10]) (nLn l) = l.length + 1 := by
  unfold sLn nLn
  have := ls_next (f := tf (l ++ [10])) (n := (l ++ [10]).length) (k := l.length) (by rw [len_app]; omega) tf_app2
  rw [cnt_app (Nat.le_refl _)] at this
  exact this
def okT (l : Tx) : Prop := ∀ j, j < l.length → okc (tf l j)
def TX (H : AH) (g : Nat → Nat → Int32) (t : Nat) (l : Tx) : Prop :=
  okT l ∧ l.length ≤ 40 ∧ g t 2 = nI l.length ∧ g t 3 = nI (nLn l) ∧ (∀ j, j < l.length → g (gr H t 0) j = tf l j) ∧ (∀ i, i < nLn l → g (gr H t 1) i = nI (sLn l i)) ∧ g (gr H t 1) (nLn l) = nI (l.length + 1)
/-- only text t is changed -/
def TF (H : AH) (t : Nat) (g g' : Nat → Nat → Int32) : Prop := ∀ a, a ≠ t → a ≠ gr H t 0 → a ≠ gr H t 1 → g' a = g a
theorem okT_app {l : Tx} {x : Int32} (h : okT l) (hx : okc x) : okT (l ++ [x]) := fun j hj => by
  rw [len_app] at hj
  by_cases e : j = l.length
  · subst e; rw [tf_app2]; exact hx
  · rw [tf_app1 (by omega)]; exact h j (by omega)
section TXTA
variable {d : Nat} {Q : Option AV → AH → Prop} {H : AH} {g : Nat → Nat → Int32} {t : Nat} {l : Tx}
theorem lm_findLines (hT : TO H t) (ho : okT l) (hn : l.length ≤ 40) (k : ∀ g', TX H g' t l → (∀ a, a ≠ t → a ≠ gr H t 1 → g' a = g a) → Q none (wi H g')) :
    ∀ (m i : Nat) (g1 : Nat → Nat → Int32), i + m = l.length → g1 t 2 = nI l.length → g1 t 3 = nI (cnt (tf l) i + 1) → (∀ j, j < l.length → g1 (gr H t 0) j = tf l j) → (∀ j, j ≤ cnt (tf l) i → g1 (gr H t 1) j = nI (sLn l j)) →
    (∀ a, a ≠ t → a ≠ gr H t 1 → g1 a = g a) → wp d sc_Text_findLines 7 [vR t, vI (nI i)] [] (wi H g1) Q := by
  intro m
  induction m with
  | zero =>
    intro i g1 hi c2 c3 cf cs fr1
    have hil : i = l.length := by omega
    have z : gi (wi H g1) t 2 ≤ nI i := by rw [wi_gi, c2, hil]; exact Int32.le_refl _
    have hcl := cnt_le (tf l) l.length
    have hnl : nLn l = cnt (tf l) i + 1 := by rw [hil]; rfl
    refine t_Text_findLines_7 hT.1 (fun _ => by rw [wi_kd, wi_gr, hT.2.2]) (fun _ => by rw [wi_kd, wi_gr, hT.2.2, wi_gi, c3]; exact vp_in_nI (by rw [hil]; show _ < 42; omega) (by decide)) (fun q => absurd z q) (fun q => absurd z q) (fun q => absurd z q) (fun q => absurd z q) (fun _ => ?_) (fun q => absurd z q) (fun q => absurd z q)
    simp only [wi_si, wi_gr, wi_gi, c3, c2, nI_clamp (show cnt (tf l) i + 1 < 2 ^ 31 by rw [hil]; omega), nI_1]
    refine k _ ⟨ho, hn, ?_, ?_, fun j hj => ?_, fun j hj => ?_, ?_⟩ (fun a h1 h2 => ?_)
    · rw [hT.A1]; exact c2
    · rw [hT.A1, hnl]; exact c3
    · rw [hT.A4]; exact cf j hj
    · rw [u2_ne (Or.inr (by omega))]; exact cs j (by omega)
    · rw [hnl, u2_self]
    · rw [u2_na h2]; exact fr1 a h1 h2
  | succ m ih =>
    intro i g1 hi c2 c3 cf cs fr1
    have hil : i < l.length := by omega
    have hcl := cnt_le (tf l) i
    have z : ¬ gi (wi H g1) t 2 ≤ nI i := by rw [wi_gi, c2]; exact nI_ge hil (by omega)
    have hc : gi (wi H g1) (gr (wi H g1) t 0) (nI i).toNatClampNeg = tf l i := by rw [wi_gi, wi_gr, nI_clamp (by omega), cf i hil]
    refine t_Text_findLines_7 hT.1 (fun q => absurd q z) (fun q => absurd q z) (fun _ => by rw [wi_kd, wi_gr, hT.2.1]) (fun _ => by rw [wi_kd, wi_gr, hT.2.1]; exact vp_in_nI (by show _ < 40; omega) (by decide)) (fun _ _ => by rw [wi_kd, wi_gr, hT.2.2]) (fun _ _ => by rw [wi_kd, wi_gr, hT.2.2, wi_gi, c3]; exact vp_in_nI (by show _ < 42; omega) (by decide)) (fun q => absurd q z) (fun _ h => ?_) (fun _ h => ?_)
    · rw [hc] at h
      rw [nI_1]
      refine ih (i + 1) g1 (by omega) c2 (by rw [cnt_sn h]; exact c3) cf (by rw [cnt_sn h]; exact cs) fr1
    · rw [hc] at h
      simp only [wi_si, wi_gr, wi_gi, c3, nI_clamp (show cnt (tf l) i + 1 < 2 ^ 31 by omega), hT.A1, nI_1]
      refine ih (i + 1) _ (by omega) ?_ ?_ (fun j hj => ?_) (fun j hj => ?_) (fun a h1 h2 => ?_)
      · rw [B32, hT.A1]; exact c2
      · rw [u2_self, cnt_s10 h]
      · rw [hT.A2, hT.A4]; exact cf j hj
      · rw [hT.A3]
        rw [cnt_s10 h] at hj
        by_cases e : j = cnt (tf l) i + 1
        · subst e
          rw [u2_self]
          unfold sLn
          rw [ls_next hil h]
        · rw [u2_ne (Or.inr e)]; exact cs j (by omega)
      · rw [u2_na h1, u2_na h2]; exact fr1 a h1 h2
theorem x_findLines (hd : 1 ≤ d) (hT : TO H t) (ho : okT l) (hn : l.length ≤ 40) (hc : g t 2 = nI l.length) (hf : ∀ j, j < l.length → g (gr H t 0) j = tf l j) (h0 : g (gr H t 1) 0 = 0)
    (k : ∀ g', TX H g' t l → (∀ a, a ≠ t → a ≠ gr H t 1 → g' a = g a) → Q none (wi H g')) : cwp d 79 [vR t] (wi H g) Q := by
  refine e_Text_findLines hd hT.1 (t_Text_findLines_0 hT.1 ?_)
  rw [wi_si]
  refine lm_findLines hT ho hn k l.length 0 _ (by omega) ?_ ?_ (fun j hj => ?_) (fun j hj => ?_) (fun a h1 h2 => u2_na h1)
  · rw [B32]; exact hc
  · rw [u2_self]; rfl
  · rw [hT.A2]; exact hf j hj
  · rw [hT.A3]
    have : j = 0 := by simpa [cnt] using hj
    subst this
    rw [h0]
    unfold sLn
    rw [ls_0]
    rfl
theorem TX.s0 (h : TX H g t l) : g (gr H t 1) 0 = 0 := by
  rw [h.2.2.2.2.2.1 0 (by unfold nLn; omega)]
  unfold sLn
  rw [ls_0]
  rfl
theorem x_append {x : Int32} (hd : 1 ≤ d) (hT : TO H t) (hX : TX H g t l) (hc : okc x) (kn : 40 ≤ l.length → Q (some (vI 0)) (wi H g))
    (ky : l.length < 40 → ∀ g', TX H g' t (l ++ [x]) → TF H t g g' → Q (some (vI 1)) (wi H g')) : cwp d 73 [vR t, vI x] (wi H g) Q := by
  obtain ⟨x0, x1, x2, x3, x4, x5, x6⟩ := hX
  have hcl := nLn_le l
  have e40 : gi (wi H g) t 2 < 40 ↔ l.length < 40 := by rw [wi_gi, x2, show (40 : Int32) = nI 40 from rfl, nI_ltI (by omega) (by decide)]
  have c1 : (nI l.length).toNatClampNeg = l.length := nI_clamp (by omega)
  have c2 : (nI (nLn l)).toNatClampNeg = nLn l := nI_clamp (by omega)
  have c3 : (nI (nLn l + 1)).toNatClampNeg = nLn l + 1 := nI_clamp (by omega)
  refine e_Text_append hd hT.1 (t_Text_append_0 hT.1 (fun _ => by rw [wi_kd, wi_gr, hT.2.1]) (fun q => ?_) (fun _ _ => by rw [wi_kd, wi_gr, hT.2.2]) (fun q q2 => ?_) (fun _ _ => by rw [wi_kd, wi_gr, hT.2.2]) (fun q q2 => ?_) (fun q q2 => ?_) (fun q q2 => ?_) (fun q q2 => ?_) (fun q => kn (by rw [e40] at q; omega)))
  · rw [e40] at q
    rw [wi_kd, wi_gr, hT.2.1, wi_gi, x2]
    exact vp_in_nI q (by decide)
  · rw [e40] at q
    simp only [wi_si, wi_gr, wi_gi, wi_kd, hT.A0, B23, x3, hT.2.2]
    exact vp_in_nI (by omega) (by decide)
  · rw [e40] at q
    simp only [wi_si, wi_gr, wi_gi, wi_kd, hT.A0, B23, x3, hT.2.2]
    exact vp_in_nI (by omega) (by decide)
  · rw [e40] at q
    simp only [wi_si, wi_gr, wi_gi, wi_kd, hT.A0, hT.A1, B23, u2_self, x3, hT.2.2, nI_1]
    exact vp_in_nI (by omega) (by decide)
  · rw [e40] at q
    simp only [wi_si, wi_gr, wi_gi, wi_kd, hT.A0, hT.A1, B23, B32, u2_self, x3, x2, nI_1, c1, c2, nar_ok hc]
    have hnl : nLn (l ++ [x]) = nLn l := by rw [nLn_app, if_neg q2]; rfl
    refine ky q _ ⟨okT_app x0 hc, by rw [len_app]; omega, ?_, ?_, fun j hj => ?_, fun j hj => ?_, ?_⟩ (fun a h1 h2 h3 => ?_)
    · rw [hT.A1, u2_self, len_app]
    · rw [hT.A1, B23, hT.A0, x3, hnl]
    · rw [hT.A4, hT.A2]
      by_cases e : j = l.length
      · subst e; rw [u2_self, tf_app2]
      · rw [len_app] at hj
        rw [u2_ne (Or.inr e), x4 j (by omega), tf_app1 (by omega)]
    · rw [hnl] at hj
      rw [u2_ne (Or.inr (by omega)), hT.A3, hT.A5, x5 j hj, sLn_app hj]
    · rw [hnl, u2_self, len_app]
    · rw [u2_na h3, u2_na h1, u2_na h2]
  · rw [e40] at q
    subst q2
    simp only [wi_si, wi_gr, wi_gi, wi_kd, hT.A0, hT.A1, B23, B32, u2_self, x3, x2, nI_1, c1, c2, c3, nar_ok hc]
    have hnl : nLn (l ++ [10]) = nLn l + 1 := by rw [nLn_app, if_pos rfl]
    refine ky q _ ⟨okT_app x0 hc, by rw [len_app]; omega, ?_, ?_, fun j hj => ?_, fun j hj => ?_, ?_⟩ (fun a h1 h2 h3 => ?_)
    · rw [hT.A1, B32, hT.A1, u2_self, len_app]
    · rw [hT.A1, u2_self, hnl]
    · rw [hT.A4, hT.A2, hT.A4, hT.A2]
      by_cases e : j = l.length
      · subst e; rw [u2_self, tf_app2]
      · rw [len_app] at hj
        rw [u2_ne (Or.inr e), x4 j (by omega), tf_app1 (by omega)]
    · rw [hnl] at hj
      rw [u2_ne (Or.inr (by omega)), hT.A3]
      by_cases e : j = nLn l
      · subst e; rw [u2_self, sLn_app2]
      · rw [u2_ne (Or.inr e), hT.A3, hT.A5, x5 j (by omega), sLn_app (by omega)]
    · rw [hnl, u2_self, len_app]
    · rw [u2_na h3, u2_na h1, u2_na h3, u2_na h1, u2_na h2]
end TXTA
