/-! the class: new cells -/
def EX (H H' : AH) : Prop := nx H ≤ nx H' ∧ (∀ a, a < nx H → kd H' a = kd H a) ∧ ∀ a k, a < nx H → ¬ (33 ≤ a ∧ a ≤ 35) → gr H' a k = gr H a k
def GX (H : AH) (g g' : Nat → Nat → Int32) : Prop := ∀ a, a < nx H → ¬ (27 ≤ a ∧ a ≤ 38) → g' a = g a
theorem EX.rf {H : AH} : EX H H := ⟨Nat.le_refl _, fun _ _ => rfl, fun _ _ _ _ => rfl⟩
theorem EX.trans {H H' H'' : AH} (h : EX H H') (h2 : EX H' H'') : EX H H'' := ⟨Nat.le_trans h.1 h2.1, fun a ha => by rw [h2.2.1 a (by have := h.1; omega), h.2.1 a ha], fun a k ha hb => by rw [h2.2.2 a k (by have := h.1; omega) hb, h.2.2 a k ha hb]⟩
theorem EX.oal {H : AH} {c n w : Nat} : EX H (al H c n w) := ⟨Nat.le_succ _, fun a ha => by rw [kd_al, if_neg (by omega)], fun a k ha _ => by rw [gr_al, if_neg (by omega)]⟩
theorem EX.osr {H H' : AH} {a k v : Nat} (h : EX H H') (ha : nx H ≤ a ∨ (33 ≤ a ∧ a ≤ 35)) : EX H (sr H' a k v) := ⟨h.1, h.2.1, fun b j hb hc => by rw [gr_sr, if_neg (fun z => by have := z.1; omega)]; exact h.2.2 b j hb hc⟩
theorem nth_lt {α : Type} : ∀ {l : List α} {k : Nat} {v : α}, sm_nth l k = some v → k < l.length := by
  intro l
  induction l with
  | nil => intro k v h; cases h
  | cons x xs ih =>
    intro k v h
    cases k with
    | zero => simp
    | succ k =>
      have := ih (k := k) (v := v) h
      simp only [List.length_cons]
      omega
theorem fx_lt {a : Nat} {p : Nat × Nat} (h : fKA a = some p) : a ≤ 70 := by
  unfold fKA at h
  split at h
  · cases h
  · have h2 := nth_lt h
    have h3 : fKL.length = 52 := rfl
    omega
theorem lk_lt {a k v : Nat} (h : lk2 fRL a k = some v) : a ≤ 70 ∧ ¬ (33 ≤ a ∧ a ≤ 35) := by
  have h2 : ∀ t ∈ fRL, t.1 ≤ 70 ∧ ¬ (33 ≤ t.1 ∧ t.1 ≤ 35) := by decide
  exact h2 _ (lk2_mem h)
theorem Fix.ex {H H' : AH} (hF : Fix H) (he : EX H H') : Fix H' := by
  have h71 := hF.1
  have hn := he.1
  refine ⟨by omega, fun a p h => ?_, fun a k v h => ?_⟩
  · have := fx_lt h
    rw [he.2.1 a (by omega)]
    exact hF.2.1 a p h
  · obtain ⟨h1, h2⟩ := lk_lt h
    rw [he.2.2 a k (by omega) h2]
    exact hF.2.2 a k v h
section EXT
variable {d : Nat} {Q : Option AV → AH → Prop} {H H' : AH} {g g' : Nat → Nat → Int32} {t t2 K r n p : Nat} {l l2 : Tx} {P : List (Bool × Tx)} {e : Bool × Tx} {R : List Rv} {σ : SG}
theorem TL.n33 (hL : TL H t) (hF : Fix H) : ¬ (33 ≤ t ∧ t ≤ 35) := fun z => by
  have h3 := ne3 hL (hF.c 33 27 rfl)
  have h4 := ne3 hL (hF.c 34 27 rfl)
  have h5 := ne3 hL (hF.c 35 27 rfl)
  omega
theorem TL.ex (hL : TL H t) (hF : Fix H) (he : EX H H') (ht : t + 2 < nx H) : TL H' t := by
  have hn := hL.n33 hF
  obtain ⟨⟨h1, h2, h3⟩, h4, h5⟩ := hL
  have e0 := he.2.2 t 0 (by omega) hn
  have e1 := he.2.2 t 1 (by omega) hn
  exact ⟨⟨by rw [he.2.1 t (by omega)]; exact h1, by rw [e0, he.2.1 _ (by omega)]; exact h2, by rw [e1, he.2.1 _ (by omega)]; exact h3⟩, by rw [e0]; exact h4, by rw [e1]; exact h5⟩
theorem TX.ex (hX : TX H g t l) (hL : TL H t) (hF : Fix H) (he : EX H H') (ht : t + 2 < nx H) (h0 : g' t = g t) (h1 : g' (t + 1) = g (t + 1)) (h2 : g' (t + 2) = g (t + 2)) : TX H' g' t l := by
  have hn := hL.n33 hF
  have hX1 := hX.of hL h0 h1 h2
  have e0 := he.2.2 t 0 (by omega) hn
  have e1 := he.2.2 t 1 (by omega) hn
  unfold TX at hX1 ⊢
  rw [e0, e1]
  exact hX1
theorem RVc.ex (h : RVc H g K r P n e) (hF : Fix H) (he : EX H H') (hg : GX H g g') : RVc H' g' K r P n e := by
  obtain ⟨h1, h2, h3, h4, h5, h6, h7, h8, h9⟩ := h
  have h71 := hF.1
  have hn := he.1
  have er : g' r = g r := hg r h3 (by omega)
  have e0 : gr H' r 0 = gr H r 0 := he.2.2 r 0 h3 (by omega)
  have ht : gr H r 0 + 2 < nx H := by omega
  have et : ∀ b, b ≤ 2 → g' (gr H r 0 + b) = g (gr H r 0 + b) := fun b hb => hg _ (by omega) (by omega)
  exact ⟨by rw [he.2.1 r h3]; exact h1, h2, by omega, by rw [e0]; omega, by rw [e0]; exact h5.ex hF he ht, by rw [e0]; exact h6.ex h5 hF he ht (et 0 (by decide)) (et 1 (by decide)) (et 2 (by decide)), by rw [er]; exact h7, by rw [er]; exact h8, by rw [er]; exact h9⟩
theorem PGc.ex (h : PGc H g K R) (hF : Fix H) (he : EX H H') (hg : GX H g g') : PGc H' g' K R := by
  obtain ⟨h1, h2, h3, h4⟩ := h
  have h71 := hF.1
  refine ⟨h1, by rw [hg 19 (by omega) (by decide)]; exact h2, h3, fun p hp => ?_⟩
  obtain ⟨a1, ⟨a2, a3⟩, a4⟩ := h4 p hp
  refine ⟨by rw [hg _ (by omega) (by omega)]; exact a1, ⟨by rw [he.2.2 26 p (by omega) (by decide)]; exact a2, by rw [he.2.2 _ 0 (by omega) (by omega)]; exact a3⟩, fun n e hn hh => ?_⟩
  rw [he.2.2 _ n (by omega) (by omega)]
  exact (a4 n e hn hh).ex hF he hg
theorem CI.ex (h : CI H g σ) (he : EX H H') (hg : GX H g g') (h36 : ∃ l, TX H' g' 36 l) : CI H' g' σ := by
  obtain ⟨hF, h20, -, hr⟩ := h
  have h71 := hF.1
  obtain ⟨K, D, R, ct, wr, dw, cl, nb, pd, scr⟩ := σ
  obtain ⟨hK, gK, h23, h40, hP, hJ, hd, hs⟩ := hr
  refine ⟨hF.ex he, h20.ex hF.t20 hF he (by omega) (hg 20 (by omega) (by decide)) (hg 21 (by omega) (by decide)) (hg 22 (by omega) (by decide)), h36, hK, by rw [hg 19 (by omega) (by decide)]; exact gK, h23.ex hF.t23 hF he (by omega) (hg 23 (by omega) (by decide)) (hg 24 (by omega) (by decide)) (hg 25 (by omega) (by decide)), by rw [hg 40 (by omega) (by decide)]; exact h40, hP.ex hF he hg, by rw [hg 39 (by omega) (by decide)]; exact hJ, fun q => ?_, by rw [hg 56 (by omega) (by decide), hg 57 (by omega) (by decide)]; exact hs⟩
  obtain ⟨a1, a2, a3, a4, a5, a6, a7, a8⟩ := hd q
  refine ⟨by rw [hg 39 (by omega) (by decide)]; exact a1, by rw [hg 39 (by omega) (by decide)]; exact a2, a3, by rw [hg 19 (by omega) (by decide)]; exact a4, a5, a6, a7, ?_⟩
  rw [he.2.2 19 9 (by omega) (by decide)]
  exact a8.ex hF he hg
theorem x_copyFrom0 (hd : 2 ≤ d) (hT : TO H t) (h0 : g (gr H t 1) 0 = 0) (hT2 : TO H t2) (hX2 : TX H g t2 l2) (k : ∀ g', TX H g' t l2 → TF H t g g' → Q none (wi H g')) : cwp d 77 [vR t, vR t2] (wi H g) Q := by
  have hl2 := hX2.2.1
  have f2 : gi (wi H g) t2 2 = nI l2.length := hX2.2.2.1
  have ne : t2 ≠ gr H t 0 := fun e => by
    have h1 := hT2.1
    rw [e, hT.2.1] at h1
    simp at h1
  have c2 : (nI l2.length).toNatClampNeg = l2.length := nI_clamp (by omega)
  refine e_Text_copyFrom (by omega) hT.1 (t_Text_copyFrom_0 hT2.1 hT.1 (by rw [wi_kd, wi_gr, hT2.2.1]) (by rw [wi_kd, wi_gr, hT.2.1]) (by rw [f2]; exact nI_pos (by omega)) (by rw [f2, wi_kd, wi_gr, hT2.2.1, c2]; show _ ≤ 40; omega) (by rw [f2, wi_kd, wi_gr, hT.2.1, c2]; show _ ≤ 40; omega) ?_)
  rw [f2, c2]
  simp only [wi_cp, wi_si, wi_gi, wi_gr]
  rw [cpg_na ne, hX2.2.2.1]
  refine x_findLines (by omega) hT hX2.1 hl2 u2_self (fun j hj => ?_) (by rw [u2_na (Ne.symm hT.ne1), cpg_na (Ne.symm hT.ne2)]; exact h0) (fun g' h1 h3 => t_Text_copyFrom_29 (k g' h1 (fun a a1 a2 a3 => by rw [h3 a a1 a3, u2_na a1, cpg_na a2])))
  rw [hT.A2, cpg_in (by omega) (by omega), Nat.zero_add, Nat.sub_zero]
  exact hX2.2.2.2.2.1 j hj
theorem mk3 (H : AH) (g : Nat → Nat → Int32) : ∃ H3 g3, sr (al (sr (al (al (wi H g) 28 0 4) 2 40 40) (nx H) 0 (nx (al (wi H g) 28 0 4))) 1 42 42) (nx H) 1 (nx (al (wi H g) 28 0 4) + 1) = wi H3 g3 ∧ EX H H3 ∧ (∀ a, a < nx H → g3 a = g a) ∧ nx H3 = nx H + 3 ∧ su H3 = su H + 86 ∧ TL H3 (nx H) ∧ g3 (nx H) 2 = 0 ∧ g3 (nx H + 2) 0 = 0 := by
  refine ⟨sr (al (sr (al (al H 28 0 4) 2 40 40) (nx H) 0 (nx H + 1)) 1 42 42) (nx H) 1 (nx H + 2), fun b j => if b = nx H + 2 then 0 else if b = nx H + 1 then 0 else if b = nx H then 0 else g b j, rfl, ?_, ?_, rfl, rfl, ?_, ?_, ?_⟩
  · refine EX.osr (EX.trans (EX.osr (EX.oal.trans EX.oal) (Or.inl (Nat.le_refl _))) EX.oal) (Or.inl (Nat.le_refl _))
  · intro a ha
    funext j
    show (if a = nx H + 2 then (0 : Int32) else if a = nx H + 1 then 0 else if a = nx H then 0 else g a j) = g a j
    rw [if_neg (by omega), if_neg (by omega), if_neg (by omega)]
  · have q0 : gr (sr (al (sr (al (al H 28 0 4) 2 40 40) (nx H) 0 (nx H + 1)) 1 42 42) (nx H) 1 (nx H + 2)) (nx H) 0 = nx H + 1 := by
      rw [gr_sr, if_neg (fun z => absurd z.2 (by decide)), gr_al, if_neg (by simp only [nx_al, nx_sr]; omega), gr_sr, if_pos ⟨rfl, rfl⟩]
    have q1 : gr (sr (al (sr (al (al H 28 0 4) 2 40 40) (nx H) 0 (nx H + 1)) 1 42 42) (nx H) 1 (nx H + 2)) (nx H) 1 = nx H + 2 := by
      rw [gr_sr, if_pos ⟨rfl, rfl⟩]
    refine ⟨⟨?_, ?_, ?_⟩, q0, q1⟩
    · rw [kd_sr, kd_al, if_neg (by simp only [nx_al, nx_sr]; omega), kd_sr, kd_al, if_neg (by simp only [nx_al]; omega), kd_al, if_pos rfl]
    · rw [q0, kd_sr, kd_al, if_neg (by simp only [nx_al, nx_sr]; omega), kd_sr, kd_al, if_pos (by simp only [nx_al])]
    · rw [q1, kd_sr, kd_al, if_pos (by simp only [nx_al, nx_sr])]
  · show (if nx H = nx H + 2 then (0 : Int32) else if nx H = nx H + 1 then 0 else if nx H = nx H then 0 else g (nx H) 2) = 0
    rw [if_neg (by omega), if_neg (by omega), if_pos rfl]
  · show (if nx H + 2 = nx H + 2 then (0 : Int32) else if nx H + 2 = nx H + 1 then 0 else if nx H + 2 = nx H then 0 else g (nx H + 2) 0) = 0
    rw [if_pos rfl]
theorem x_newText (hd : 3 ≤ d) (hF : Fix H) (hL : TL H t2) (hX : TX H g t2 l2) (hlt : t2 + 2 < nx H)
    (k : ∀ H' g', EX H H' → (∀ a, a < nx H → g' a = g a) → nx H' = nx H + 3 → su H' = su H + 86 → TL H' (nx H) → TX H' g' (nx H) l2 → Q none (wi H' g')) : cwp d 65 [vR (nx H), vR t2] (al (wi H g) 28 0 4) Q := by
  have h71 := hF.1
  refine e_Text_new2 (by omega) (by rw [kd_al, if_pos (show nx H = nx (wi H g) from rfl)]) (t_Text_new2_0 (by omega) ?_ ?_ ?_)
  · rw [kd_al, if_neg (by rw [nx_al]; show nx H ≠ nx H + 1; omega), kd_al, if_pos (show nx H = nx (wi H g) from rfl)]
  · rw [kd_al, if_neg (by rw [nx_sr, nx_al, nx_al]; show nx H ≠ nx H + 1 + 1; omega), kd_sr, kd_al, if_neg (by rw [nx_al]; show nx H ≠ nx H + 1; omega), kd_al, if_pos (show nx H = nx (wi H g) from rfl)]
  · obtain ⟨H3, g3, e3, x3, f3, n3, u3, L3, z2, z0⟩ := mk3 H g
    rw [e3]
    refine x_copyFrom0 (by omega) L3.1 (by rw [L3.2.2]; exact z0) (hL.ex hF x3 hlt).1 (hX.ex hL hF x3 hlt (f3 _ (by omega)) (f3 _ (by omega)) (f3 _ (by omega))) (fun g' hX' hf => t_Text_new2_25 (k H3 g' x3 (fun a ha => ?_) n3 u3 L3 hX'))
    rw [hf a (by omega) (by rw [L3.2.1]; omega) (by rw [L3.2.2]; omega), f3 a ha]
theorem x_newRev {sz st : Nat} {g1 : Nat → Nat → Int32} (hd : 1 ≤ d) (h : CI H g σ) (hL : TL H t) (hX : TX H g t e.2) (ht : t = 23 ∨ (71 ≤ t ∧ t + 2 < nx H)) (hg1 : ∀ a, a < nx H → ¬ (27 ≤ a ∧ a ≤ 35) → g1 a = g a)
    (hsz : szP σ.1 (P.length + 1) e (pv (P ++ [e]) (P.length + 1)) = sz) (hst : stp σ.1 (P ++ [e]) (P.length + 1) = st)
    (k : ∀ H' g', nx H' = nx H + 1 → su H' = su H + 4 → CI H' g' σ → RVc H' g' σ.1 (nx H) (P ++ [e]) (P.length + 1) e → Q none (wi H' g')) : cwp d 42 [vR (nx H), vR t, vI (zB e.1), vI (nI sz), vI (nI st)] (wi (al H 25 0 4) g1) Q := by
  have hF := h.1
  have h71 := hF.1
  refine e_Revision_new hd (by rw [wi_kd, kd_al, if_pos rfl]) (t_Revision_new_0 (by omega) (by rw [wi_kd, kd_al, if_pos rfl]) (fits1 _) ?_)
  rw [wi_sr, wi_si, wi_si, wi_si]
  have hx : EX H (sr (al H 25 0 4) (nx H) 0 t) := EX.osr EX.oal (Or.inl (Nat.le_refl _))
  generalize hg2 : sm_u2 (sm_u2 (sm_u2 g1 (nx H) 1 (zB e.1)) (nx H) 2 (nI sz)) (nx H) 3 (nI st) = g2
  have f2 : ∀ a, a < nx H → ¬ (27 ≤ a ∧ a ≤ 35) → g2 a = g a := fun a ha hb => by rw [← hg2, u2_na (by omega), u2_na (by omega), u2_na (by omega), hg1 a ha hb]
  have gx : GX H g g2 := fun a ha hb => f2 a ha (by omega)
  have p1 : g2 (nx H) 1 = zB e.1 := by rw [← hg2, u2_ne (Or.inr (by decide)), u2_ne (Or.inr (by decide)), u2_self]
  have p2 : g2 (nx H) 2 = nI sz := by rw [← hg2, u2_ne (Or.inr (by decide)), u2_self]
  have p3 : g2 (nx H) 3 = nI st := by rw [← hg2, u2_self]
  clear hg2
  obtain ⟨l36, h36⟩ := h.2.2.1
  have er : gr (sr (al H 25 0 4) (nx H) 0 t) (nx H) 0 = t := by rw [gr_sr, if_pos ⟨rfl, rfl⟩]
  have ht2 : t + 2 < nx H := by omega
  refine k _ g2 rfl rfl (h.ex hx gx ⟨l36, h36.ex hF.t36 hF hx (by omega) (f2 _ (by omega) (by decide)) (f2 _ (by omega) (by decide)) (f2 _ (by omega) (by decide))⟩) ⟨by rw [kd_sr, kd_al, if_pos rfl], h71, by rw [nx_sr, nx_al]; omega, by rw [er, nx_sr, nx_al]; omega, by rw [er]; exact hL.ex hF hx ht2, by rw [er]; exact hX.ex hL hF hx ht2 (f2 _ (by omega) (by omega)) (f2 _ (by omega) (by omega)) (f2 _ (by omega) (by omega)), p1, by rw [hsz]; exact p2, by rw [hst]; exact p3⟩
theorem pv_gl (P : List (Bool × Tx)) : pv P (P.length + 1) = P.getLast? := by
  unfold pv
  rw [getLast_eq, Nat.add_sub_cancel]
  by_cases h : P.length = 0
  · rw [if_pos h, List.length_eq_zero_iff.mp h]
    rfl
  · rw [if_neg h]
theorem ntx_last (R : List Rv) (p : Nat) : ntx R p = ((pg R p).getLast?.getD (true, [])).2 := by
  unfold ntx rtx
  rw [getLast_eq]
  by_cases h : (pg R p).length = 0
  · rw [if_pos h, List.length_eq_zero_iff.mp h]
    rfl
  · rw [if_neg h, List.getD_eq_getElem?_getD]
theorem wt_dl {l : Tx} : dlB K ((pg R p).length + 1) (false, l) (pv (pg R p ++ [(false, l)]) ((pg R p).length + 1)) = (!decide ((pg R p).length % K = 0) && thB R p) := by
  rw [pv_last, pv_gl]
  unfold dlB thB
  rw [Nat.add_sub_cancel]
  cases (pg R p).getLast? with
  | none => simp
  | some e => simp
theorem wt_sz {l : Tx} : szP K ((pg R p).length + 1) (false, l) (pv (pg R p ++ [(false, l)]) ((pg R p).length + 1)) = if (!decide ((pg R p).length % K = 0) && thB R p) = true then dsz (ntx R p) l else l.length := by
  unfold szP
  rw [wt_dl, pv_last, pv_gl, ntx_last]
theorem wt_st {l : Tx} : stp K (pg R p ++ [(false, l)]) ((pg R p).length + 1) = if (!decide ((pg R p).length % K = 0) && thB R p) = true then stp K (pg R p) (pg R p).length + 1 else 0 := by
  rw [stp, show cu (pg R p ++ [(false, l)]) ((pg R p).length + 1) = (false, l) by unfold cu; rw [List.getD_eq_getElem?_getD, Nat.add_sub_cancel, List.getElem?_append_right (Nat.le_refl _), Nat.sub_self]; rfl, wt_dl, stp_app (Nat.le_refl _)]
end EXT
