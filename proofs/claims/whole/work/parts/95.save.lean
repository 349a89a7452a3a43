/-! the class: remove, revert, save -/
section SAV
variable {d : Nat} {Q : Option AV → AH → Prop} {H H' : AH} {g g' : Nat → Nat → Int32} {x v b : Int32} {t K r n p : Nat} {l : Tx} {R : List Rv} {σ : SG}
theorem CI.kk (h : CI H g σ) : (1 ≤ σ.1 ∧ σ.1 ≤ 5) ∧ g 19 0 = nI σ.1 := by
  have hr := h.rst
  obtain ⟨K, D, R, ct, wr, dw, cl, nb, pd, scr⟩ := σ
  exact ⟨hr.1, hr.2.1⟩
theorem CI.rvt (h : CI H g σ) (hp : p < 6) (hn : n ≤ (pg σ.2.2.1 p).length) : ∃ r t, gr H (42 + 2 * p) n = r ∧ (kd H r).1 = 25 ∧ gr H r 0 = t ∧ TL H t ∧ TX H g t (rtx (pg σ.2.2.1 p) n) ∧ (t = 23 ∨ (71 ≤ t ∧ t + 2 < nx H)) := by
  have hF := h.1
  obtain ⟨a1, ⟨a2, a3⟩, a4⟩ := h.pgc.2.2.2 p hp
  have hr := h.rst
  by_cases hl : n = 0
  · subst hl
    refine ⟨40, 23, a3, hF.c 40 25 rfl, hF.r 40 0 23 rfl, hF.t23, ?_, Or.inl rfl⟩
    obtain ⟨K, D, R, ct, wr, dw, cl, nb, pd, scr⟩ := σ
    exact hr.2.2.1
  · have hg : (pg σ.2.2.1 p)[n - 1]? = some ((pg σ.2.2.1 p)[n - 1]'(by omega)) := List.getElem?_eq_getElem (by omega)
    generalize (pg σ.2.2.1 p)[n - 1]'(by omega) = e at hg
    obtain ⟨b1, b2, b3, b4, b5, b6, b7, b8, b9⟩ := a4 n e (by omega) hg
    have en : rtx (pg σ.2.2.1 p) n = e.2 := by
      unfold rtx
      rw [if_neg hl, List.getD_eq_getElem?_getD, hg]
      rfl
    exact ⟨_, _, rfl, b1, rfl, b5, by rw [en]; exact b6, b4⟩
theorem x_withText (hd : 6 ≤ d) (h : CI H g σ) (hp : p < 6) (hL : TL H t) (hX : TX H g t l) (ht : t = 23 ∨ (71 ≤ t ∧ t + 2 < nx H)) (k : ∀ H' g' r, nx H' = nx H + 1 → su H' = su H + 4 → CI H' g' σ → RVc H' g' σ.1 r (pg σ.2.2.1 p ++ [(false, l)]) ((pg σ.2.2.1 p).length + 1) (false, l) → Q (some (vR r)) (wi H' g')) : cwp d 114 [vR 19, vR (41 + 2 * p), vR t] (wi H g) Q := by
  have hF := h.1
  have h71 := hF.1
  obtain ⟨a1, ⟨a2, a3⟩, a4⟩ := h.pgc.2.2.2 p hp
  obtain ⟨c1, c2, c3⟩ := fx_pg hF hp
  have h24 := h.pgc.1
  have hle := pg_le σ.2.2.1 p
  obtain ⟨r, t0, b1, b2, b3, b4, b5, b6, b7⟩ := h.nw hp
  obtain ⟨hK, gK⟩ := h.kk
  have hmlt : (pg σ.2.2.1 p).length % σ.1 < 2 ^ 31 := Nat.lt_of_le_of_lt (Nat.mod_le _ _) (by omega)
  have ea : gi (wi H g) (41 + 2 * p) 1 = nI (pg σ.2.2.1 p).length := a1
  have eK : gi (wi H g) 19 0 = nI σ.1 := gK
  have er : gr (wi H g) (gr (wi H g) (41 + 2 * p) 0) (gi (wi H g) (41 + 2 * p) 1).toNatClampNeg = r := by rw [wi_gr, wi_gr, wi_gi, a1, c2, nI_clamp (by omega)]; exact b1
  have em : gi (wi H g) (41 + 2 * p) 1 - gi (wi H g) (41 + 2 * p) 1 / gi (wi H g) 19 0 * gi (wi H g) 19 0 = nI ((pg σ.2.2.1 p).length % σ.1) := by rw [ea, eK, nI_mod (by omega) (by omega)]
  have e0 : nI ((pg σ.2.2.1 p).length % σ.1) = 0 ↔ (pg σ.2.2.1 p).length % σ.1 = 0 := by rw [← nI_0, nI_eq hmlt (by decide)]
  have hrn : r < nx H := by
    by_cases hl : (pg σ.2.2.1 p).length = 0
    · rw [hl, a3] at b1; omega
    · have hg : (pg σ.2.2.1 p)[(pg σ.2.2.1 p).length - 1]? = some ((pg σ.2.2.1 p)[(pg σ.2.2.1 p).length - 1]'(by omega)) := List.getElem?_eq_getElem (by omega)
      have := (a4 _ _ (by omega) hg).2.2.1
      rw [b1] at this
      exact this
  have ka : ∀ a, a < nx H → kd (al (wi H g) 25 0 4) a = kd H a := fun a ha => by rw [kd_al, if_neg (by show a ≠ nx H; omega), wi_kd]
  have ht2 : t < nx H := by omega
  have g1n : ∀ a, a < nx H → (fun b j => if b = nx H then (0 : Int32) else g b j) a = g a := fun a ha => by funext j; exact if_neg (by omega)
  have fin0 : (!decide ((pg σ.2.2.1 p).length % σ.1 = 0) && thB σ.2.2.1 p) = false → cwp (d - 1) 42 [vR (nx (wi H g)), vR t, vI 0, vI (gi (al (wi H g) 25 0 4) t 2), vI 0] (al (wi H g) 25 0 4) (fun r1 H1 => wp (d - 1) sc_P_withText 38 [vR 19, vR (41 + 2 * p), vR t, vR r] (r1.toList ++ [vR (nx (wi H g))]) H1 Q) := by
    intro hz
    have et : gi (al (wi H g) 25 0 4) t 2 = nI l.length := by rw [gi_al, if_neg (by show t ≠ nx H; omega), wi_gi]; exact hX.2.2.1
    rw [et]
    show cwp (d - 1) 42 [vR (nx H), vR t, vI (zB (false, l).1), vI (nI l.length), vI (nI 0)] (wi (al H 25 0 4) (fun b j => if b = nx H then 0 else g b j)) _
    exact x_newRev (e := (false, l)) (P := pg σ.2.2.1 p) (by omega) h hL hX ht (fun a ha _ => g1n a ha) (by rw [wt_sz, if_neg (by rw [hz]; decide)]) (by rw [wt_st, if_neg (by rw [hz]; decide)]) (fun H' g' n' u' C' R' => t_P_withText_38 (k H' g' (nx H) n' u' C' R'))
  refine e_P_withText (by omega) (hF.c 19 30 rfl) (t_P_withText_0 (by omega) c1 (by rw [wi_kd, wi_gr, c2, c3]) (by rw [wi_kd, wi_gr, c2, c3, ea]; exact vp_in_nI (by show _ < 25; omega) (by decide)) (hF.c 19 30 rfl) (by rw [eK]; exact nI_ne0 (by omega) (by omega)) (fun _ => by rw [ka t ht2]; exact hL.1.1) (fun _ => by rw [er]; exact b2) (fun _ _ => by rw [ka 19 (by omega)]; exact hF.c 19 30 rfl) (fun _ _ => by rw [er, ka r hrn]; exact b2) (fun _ _ => by rw [ka t ht2]; exact hL.1.1) (fun q => ?_) (fun q q2 => ?_) (fun q q2 => ?_))
  · rw [em, e0] at q
    rw [er]
    exact fin0 (by rw [decide_eq_true q]; rfl)
  · rw [em, e0] at q
    rw [er] at q2 ⊢
    rw [wi_gi, b3, zB_0] at q2
    have hth : thB σ.2.2.1 p = true := by simpa using q2
    have hz : (!decide ((pg σ.2.2.1 p).length % σ.1 = 0) && thB σ.2.2.1 p) = true := by rw [decide_eq_false q, hth]; rfl
    obtain ⟨e, he, -⟩ := thB_iff.mp hth
    rw [getLast_eq] at he
    have hl0 : ¬ (pg σ.2.2.1 p).length = 0 := fun z => by rw [List.length_eq_zero_iff.mp z] at he; cases he
    obtain ⟨d1, d2, d3, d4, d5, d6, d7, d8, d9⟩ := a4 (pg σ.2.2.1 p).length e (by omega) he
    rw [b1] at d2 d4 d9
    rw [b4] at d4
    have x1 : EX H (al H 25 0 4) := EX.oal
    have g4 : gr (al (wi H g) 25 0 4) 19 4 = 27 := by rw [gr_al, if_neg (by show 19 ≠ nx H; omega)]; exact hF.r 19 4 27 rfl
    have gt : gr (al (wi H g) 25 0 4) r 0 = t0 := by rw [gr_al, if_neg (by show r ≠ nx H; omega)]; exact b4
    rw [g4, gt]
    show cwp (d - 1) 24 [vR 27, vR t0, vR t] (wi (al H 25 0 4) (fun b j => if b = nx H then 0 else g b j)) _
    refine x_deltaSpace (by omega) (hF.ex x1) (b5.ex hF x1 (by omega)).1 (b6.ex b5 hF x1 (by omega) (g1n _ (by omega)) (g1n _ (by omega)) (g1n _ (by omega))) (hL.ex hF x1 (by omega)).1 (hX.ex hL hF x1 (by omega) (g1n _ (by omega)) (g1n _ (by omega)) (g1n _ (by omega))) (fun g2 f2 => t_P_withText_57 (by rw [wi_kd, kd_al, if_neg (by omega)]; exact b2) ?_)
    have e9 : gi (wi (al H 25 0 4) g2) r 3 + 1 = nI (stp σ.1 (pg σ.2.2.1 p) (pg σ.2.2.1 p).length + 1) := by
      rw [wi_gi, f2 r (by omega) (by omega)]
      show (if r = nx H then (0 : Int32) else g r 3) + 1 = _
      rw [if_neg (by omega), d9, nI_1]
    rw [e9]
    show cwp (d - 1) 42 [vR (nx H), vR t, vI (zB (false, l).1), vI (nI (dsz (ntx σ.2.2.1 p) l)), vI (nI (stp σ.1 (pg σ.2.2.1 p) (pg σ.2.2.1 p).length + 1))] (wi (al H 25 0 4) g2) _
    exact x_newRev (e := (false, l)) (P := pg σ.2.2.1 p) (by omega) h hL hX ht (fun a ha hb => by rw [f2 a (by omega) (by omega)]; exact g1n a ha) (by rw [wt_sz, if_pos hz]) (by rw [wt_st, if_pos hz]) (fun H' g' n' u' C' R' => t_P_withText_66 (k H' g' (nx H) n' u' C' R'))
  · rw [er] at q2 ⊢
    rw [wi_gi, b3, zB_0] at q2
    have hth : thB σ.2.2.1 p = false := by simpa using q2
    exact fin0 (by rw [hth, Bool.and_false])
theorem x_remove (hd : 5 ≤ d) (h : CI H g σ) (k : ∀ H' g', nx H' ≤ nx H + 4 → su H' ≤ su H + 90 → CI H' g' (sp_rem σ x).2 → Q (some (vI (sp_rem σ x).1)) (wi H' g')) : cwp d 98 [vR 19, vI x] (wi H g) Q := by
  have hF := h.1
  have h71 := hF.1
  have h24 := h.pgc.1
  unfold sp_rem at k
  have g8 : gi (wi H g) 19 8 = nI σ.2.2.1.length := h.pgc.2.1
  have e24 : gi (wi H g) 19 8 < 24 ↔ σ.2.2.1.length < 24 := by rw [g8, show (24 : Int32) = nI 24 from rfl, nI_ltI (by omega) (by decide)]
  refine e_P_remove (by omega) (hF.c 19 30 rfl) (f_P_remove_0 hF (x_there (by omega) h ?_))
  unfold sp_there
  by_cases hw : σ.2.2.2.2.2.1 = true
  · rw [if_pos hw] at k ⊢
    exact t_P_remove_5 (fun z => absurd rfl z) (fun z => absurd rfl z) (fun z => absurd rfl z) (fun z => absurd rfl z) (fun _ => k H g (by omega) (by omega) h)
  · rw [if_neg hw] at k ⊢
    have hwf : σ.2.2.2.2.2.1 = false := by simpa using hw
    by_cases ht : thX σ.2.2.1 x = true
    · rw [if_neg (by rw [ht]; decide)] at k
      rw [if_pos ht]
      obtain ⟨q6, qe, qt⟩ := thX_p ht
      generalize x.toNatClampNeg = p at *
      subst qe
      refine t_P_remove_5 (fun _ => hF.c 19 30 rfl) (fun _ _ => by rw [kd_al, if_neg (by show 19 ≠ nx H; omega)]; exact hF.c 19 30 rfl) (fun _ q => ?_) (fun _ q => ?_) (fun z => absurd z (by decide))
      · rw [e24] at q
        rw [if_neg (by omega), pgN_some q6] at k
        have er : gr (al (wi H g) 25 0 4) 19 2 = 23 := by rw [gr_al, if_neg (by show 19 ≠ nx H; omega)]; exact hF.r 19 2 23 rfl
        rw [er]
        have h23 : TX H g 23 [] := by
          have hr := h.rst
          obtain ⟨K, D, R, ct, wr, dw, cl, nb, pd, scr⟩ := σ
          exact hr.2.2.1
        show cwp (d - 1) 42 [vR (nx H), vR 23, vI (zB (true, ([] : Tx)).1), vI (nI 0), vI (nI 0)] (wi (al H 25 0 4) (fun b j => if b = nx H then 0 else g b j)) _
        refine x_newRev (e := (true, [])) (P := pg σ.2.2.1 p) (by omega) h hF.t23 h23 (Or.inl rfl) (fun a ha _ => by funext j; exact if_neg (by omega)) (by unfold szP dlB; simp) ?_ (fun H' g' n' u' C' R' => t_P_remove_38 (x_make (rv := (p, true, [])) (by omega) C' hwf q q6 (fun _ => rfl) R' (fun H2 g2 n2 u2 C2 => t_P_remove_41 (k H2 g2 (by omega) (by omega) C2))))
        rw [stp, show cu (pg σ.2.2.1 p ++ [(true, [])]) ((pg σ.2.2.1 p).length + 1) = (true, []) by unfold cu; rw [List.getD_eq_getElem?_getD, Nat.add_sub_cancel, List.getElem?_append_right (Nat.le_refl _), Nat.sub_self]; rfl]
        unfold dlB
        simp
      · rw [e24] at q
        rw [if_pos (by omega)] at k
        exact k H g (by omega) (by omega) h
    · rw [if_pos (by simpa using ht)] at k
      rw [if_neg ht]
      exact t_P_remove_5 (fun z => absurd rfl z) (fun z => absurd rfl z) (fun z => absurd rfl z) (fun z => absurd rfl z) (fun _ => k H g (by omega) (by omega) h)
theorem x_revert (hd : 8 ≤ d) (h : CI H g σ) (k : ∀ H' g', nx H' ≤ nx H + 4 → su H' ≤ su H + 90 → CI H' g' (sp_rev σ x v).2 → Q (some (vI (sp_rev σ x v).1)) (wi H' g')) : cwp d 97 [vR 19, vI x, vI v] (wi H g) Q := by
  have hF := h.1
  have h24 := h.pgc.1
  have e24 : g 19 8 < 24 ↔ σ.2.2.1.length < 24 := by rw [h.pgc.2.1, show (24 : Int32) = nI 24 from rfl, nI_ltI (by omega) (by decide)]
  unfold sp_rev at k
  refine e_P_revert (by omega) (hF.c 19 30 rfl) (f_P_revert_0 hF (x_hasRevision (by omega) h (fun p n e hw hp h1 hn hx hv he => ?_) (fun hno => ?_)))
  · subst hx hv
    have hle := pg_le σ.2.2.1 p
    have hwf : σ.2.2.2.2.2.1 = false := by simpa using hw
    obtain ⟨a1, ⟨a2, a3⟩, a4⟩ := h.pgc.2.2.2 p hp
    obtain ⟨c1, c2, c3⟩ := fx_pg hF hp
    obtain ⟨b1, b2, b3, b4, b5, b6, b7, b8, b9⟩ := a4 n e h1 he
    have ep : gr H 26 (nI p).toNatClampNeg = 41 + 2 * p := by rw [nI_clamp (by omega)]; exact a2
    have en : (nI n).toNatClampNeg = n := nI_clamp (by omega)
    rw [if_neg hw, rvN_at hp h1 (by omega) he] at k
    dsimp only at k
    have v3 : vp_in (nI n) (kd H (gr H (gr H 26 (nI p).toNatClampNeg) 0)).2 := by rw [ep, c2, c3]; exact vp_in_nI (by show _ < 25; omega) (by decide)
    have k4 : (kd H (gr H (gr H (gr H 26 (nI p).toNatClampNeg) 0) (nI n).toNatClampNeg)).1 = 25 := by rw [ep, c2, en]; exact b1
    have er1 : g (gr H (gr H (gr H 26 (nI p).toNatClampNeg) 0) (nI n).toNatClampNeg) 1 = zB e.1 := by rw [ep, c2, en]; exact b7
    refine f_P_revert_6 (by omega) hF (fun _ => vp_in_nI hp (by decide)) (fun _ => by rw [ep]; exact c1) (fun _ => by rw [ep, c2, c3]) (fun _ => v3) (fun _ => k4) (fun z => absurd z (by decide)) (fun _ q q2 => ?_) (fun _ q q2 => ?_) (fun _ q => ?_)
    · rw [er1, zB_0] at q
      rw [e24] at q2
      rw [if_neg (by rw [q]; decide), if_neg (by omega)] at k
      rw [ep, c2, en]
      exact x_withText (by omega) h hp b5 b6 b4 (fun H' g' r n' u' C' R' => f_P_revert_64 C'.1 (x_make (rv := (p, false, e.2)) (by omega) C' hwf q2 hp (fun z => by cases z) R' (fun H2 g2 n2 u2 C2 => f_P_revert_67 C2.1 (k H2 g2 (by omega) (by omega) C2))))
    · rw [er1, zB_0] at q
      rw [e24] at q2
      rw [if_neg (by rw [q]; decide), if_pos (by omega)] at k
      exact k H g (by omega) (by omega) h
    · rw [er1, zB_0] at q
      rw [if_pos (by simpa using q)] at k
      exact k H g (by omega) (by omega) h
  · refine f_P_revert_6 (by omega) hF (fun z => absurd rfl z) (fun z => absurd rfl z) (fun z => absurd rfl z) (fun z => absurd rfl z) (fun z => absurd rfl z) (fun _ => ?_) (fun z => absurd rfl z) (fun z => absurd rfl z) (fun z => absurd rfl z)
    split at k
    · exact k H g (by omega) (by omega) h
    · rename_i hw
      rw [hno.resolve_left hw] at k
      exact k H g (by omega) (by omega) h
theorem x_save (hd : 9 ≤ d) (h : CI H g σ) (k : ∀ H' g', nx H' ≤ nx H + 4 → su H' ≤ su H + 90 → CI H' g' (sp_save σ x b).2 → Q (some (vI (sp_save σ x b).1)) (wi H' g')) : cwp d 96 [vR 19, vI x, vI b] (wi H g) Q := by
  have hF := h.1
  have h71 := hF.1
  have h24 := h.pgc.1
  unfold sp_save at k
  refine e_P_save (by omega) (hF.c 19 30 rfl) (f_P_save_0 hF (x_isUsable (by omega) h (fun r hr => ?_)))
  rcases hr with ⟨⟨h1, p, hp, rfl⟩, rfl⟩ | ⟨hr, rfl⟩
  · rw [if_neg h1, pgN_some hp] at k
    dsimp only at k
    have hwf : σ.2.2.2.2.2.1 = false := by simpa using h1
    obtain ⟨a1, ⟨a2, a3⟩, a4⟩ := h.pgc.2.2.2 p hp
    obtain ⟨c1, c2, c3⟩ := fx_pg hF hp
    have hle := pg_le σ.2.2.1 p
    have E1 : gr (wi H g) (gr (wi H g) 19 3) (nI p).toNatClampNeg = 41 + 2 * p := by rw [wi_gr, wi_gr, hF.r 19 3 26 rfl, nI_clamp (by omega)]; exact a2
    have E2 : gi (wi H g) (41 + 2 * p) 1 = nI (pg σ.2.2.1 p).length := a1
    have E3 : gr (wi H g) (41 + 2 * p) 0 = 42 + 2 * p := c2
    have g8 : gi (wi H g) 19 8 = nI σ.2.2.1.length := h.pgc.2.1
    have e24 : gi (wi H g) 19 8 < 24 ↔ σ.2.2.1.length < 24 := by rw [g8, show (24 : Int32) = nI 24 from rfl, nI_ltI (by omega) (by decide)]
    obtain ⟨l36, h36⟩ := h.2.2.1
    by_cases hb : b < 0
    · rw [if_pos (Or.inl hb)] at k
      exact t_P_save_5 (by omega) (fun _ z => absurd hb z) (fun _ z => absurd hb z) (fun _ z => absurd hb z) (fun _ z => absurd hb z) (fun _ z => absurd hb z) (fun _ z => absurd hb z) (fun _ z => absurd hb z) (fun _ z => absurd hb z) (fun _ z => absurd hb z) (fun _ z => absurd hb z) (fun z => absurd z (by decide)) (fun _ _ => k H g (by omega) (by omega) h) (fun _ z => absurd hb z) (fun _ z => absurd hb z) (fun _ z => absurd hb z) (fun _ z => absurd hb z)
    · obtain ⟨n, hn, rfl⟩ := nI_of hb
      have en : (nI n).toNatClampNeg = n := nI_clamp hn
      have eb : nI n ≤ gi (wi H g) (41 + 2 * p) 1 ↔ n ≤ (pg σ.2.2.1 p).length := by rw [E2, nI_leI hn (by omega)]
      have no1 : n ≤ (pg σ.2.2.1 p).length → ¬ (nI n < 0 ∨ nI (pg σ.2.2.1 p).length < nI n) := fun q z => z.elim hb (fun z => by rw [nI_ltI (by omega) hn] at z; omega)
      have cl : (nI (pg σ.2.2.1 p).length).toNatClampNeg = (pg σ.2.2.1 p).length := nI_clamp (by omega)
      refine t_P_save_5 (by omega) (fun _ _ => hF.c 19 30 rfl) (fun _ _ => by rw [wi_kd, wi_gr, hF.r 19 3 26 rfl]; exact hF.c 26 64 rfl) (fun _ _ => by rw [wi_kd, wi_gr, hF.r 19 3 26 rfl, hF.2.1 26 (64, 6) rfl]; exact vp_in_nI hp (by decide)) (fun _ _ => by rw [E1]; exact c1) (fun _ _ _ _ _ => by rw [E1, E3, wi_kd, c3]) (fun _ _ q _ _ => ?_) (fun _ _ q _ _ => ?_) (fun _ _ _ _ _ => by rw [E1, E2, E3, wi_kd, c3]; exact vp_in_nI (by show _ < 25; omega) (by decide)) (fun _ _ _ _ _ => ?_) (fun _ _ _ _ _ => by rw [kd_al, if_neg (by show 19 ≠ nx H; omega)]; exact hF.c 19 30 rfl) (fun z => absurd z (by decide)) (fun _ z => absurd z hb) (fun _ _ q q8 qe => ?_) (fun _ _ q q8 qe => ?_) (fun _ _ q q8 => ?_) (fun _ _ q => ?_)
      · rw [E1, eb] at q
        rw [E1, E3, wi_kd, c3]
        exact vp_in_nI (by show _ < 25; omega) (by decide)
      · rw [E1, eb] at q
        obtain ⟨r, t, s1, s2, -⟩ := h.rvt hp q
        rw [E1, E3, en, wi_gr, s1]
        exact s2
      · obtain ⟨r, t, s1, s2, -⟩ := h.rvt (n := (pg σ.2.2.1 p).length) hp (Nat.le_refl _)
        rw [E1, E2, E3, cl, wi_gr, s1]
        exact s2
      · rw [E1, eb] at q
        rw [e24] at q8
        rw [E1, E2] at qe
        rw [if_neg (no1 q), if_neg (by omega), if_neg qe, en] at k
        obtain ⟨ro, to, s1, s2, s3, Lo, Xo, zo⟩ := h.rvt hp q
        obtain ⟨ra, ta, u1, u2, u3, La, Xa, za⟩ := h.rvt (n := (pg σ.2.2.1 p).length) hp (Nat.le_refl _)
        have T1 : gr (wi H g) (gr (wi H g) (42 + 2 * p) n) 0 = to := by rw [wi_gr, wi_gr, s1]; exact s3
        have T2 : gr (wi H g) (gr (wi H g) (42 + 2 * p) (pg σ.2.2.1 p).length) 0 = ta := by rw [wi_gr, wi_gr, u1]; exact u3
        have T3 : gr (wi H g) 19 5 = 30 := hF.r 19 5 30 rfl
        have T4 : gr (wi H g) 19 1 = 20 := hF.r 19 1 20 rfl
        rw [E1, E2, E3, en, cl, T1, T2, T3, T4]
        have xm : EX H (mH H to ta 20) := EX.osr (EX.osr (EX.osr EX.rf (Or.inr (by decide))) (Or.inr (by decide))) (Or.inr (by decide))
        have hFm : Fix (mH H to ta 20) := mH_fix hF
        have cm : ∀ g' l', XG g g' → TX (mH H to ta 20) g' 36 l' → CI (mH H to ta 20) g' σ := fun g' l' xg X' => h.ex xm (fun a _ hb => xg a (by omega) (by omega)) ⟨l', X'⟩
        refine x_merge (by omega) hF Lo La hF.t20 (by omega) (by omega) (by decide) Xo Xa h.2.1 h36 (fun hm g' l' xg X' => ?_) (fun ls g' hm xg X' => ?_)
        · rw [hm] at k
          exact t_P_save_102 (by omega) (fun z => absurd z (by decide)) (fun z => absurd z (by decide)) (fun z => absurd z (by decide)) (fun _ => k _ g' (Nat.le_add_right _ _) (Nat.le_add_right _ _) (cm g' l' xg X'))
        · rw [hm] at k
          dsimp only at k
          have C1 := cm g' _ xg X'
          by_cases h40 : 40 < (em false ls).length
          · rw [if_pos h40] at k ⊢
            exact t_P_save_102 (by omega) (fun z => absurd z (by decide)) (fun z => absurd z (by decide)) (fun z => absurd z (by decide)) (fun _ => k _ g' (Nat.le_add_right _ _) (Nat.le_add_right _ _) C1)
          · rw [if_neg h40] at k ⊢
            rw [List.take_of_length_le (by omega)] at X'
            generalize em false ls = M at *
            have k19 : ∀ a, a < nx H → kd (al (wi (mH H to ta 20) g') 28 0 4) a = kd (mH H to ta 20) a := fun a ha => by rw [kd_al, if_neg (by show a ≠ nx H; omega), wi_kd]
            have r19 : ∀ a j, a < nx H → gr (al (wi (mH H to ta 20) g') 28 0 4) a j = gr (mH H to ta 20) a j := fun a j ha => by rw [gr_al, if_neg (by show a ≠ nx H; omega), wi_gr]
            have R5 : gr (al (wi (mH H to ta 20) g') 28 0 4) 19 5 = 30 := by rw [r19 19 5 (by omega)]; exact hFm.r 19 5 30 rfl
            have R6 : gr (al (wi (mH H to ta 20) g') 28 0 4) 30 6 = 36 := by rw [r19 30 6 (by omega)]; exact hFm.r 30 6 36 rfl
            refine t_P_save_102 (by omega) (fun _ => by rw [k19 19 (by omega)]; exact hFm.c 19 30 rfl) (fun _ => by rw [R5, k19 30 (by omega)]; exact hFm.c 30 23 rfl) (fun _ => ?_) (fun z => absurd (by decide) z)
            rw [R5, R6]
            have hnm : nx (mH H to ta 20) = nx H := rfl
            have hsm : su (mH H to ta 20) = su H := rfl
            refine x_newText (H := mH H to ta 20) (g := g') (by omega) hFm hFm.t36 X' (by omega) (fun H1 g1 x1 f1 n1 u1 L1 X1 => t_P_save_130 ?_)
            have C2 : CI H1 g1 σ := C1.ex x1 (fun a ha _ => f1 a ha) ⟨M, X'.ex hFm.t36 hFm x1 (by omega) (f1 _ (by omega)) (f1 _ (by omega)) (f1 _ (by omega))⟩
            exact x_withText (by omega) C2 hp L1 X1 (Or.inr ⟨h71, by show nx H + 2 < nx H1; omega⟩) (fun H2 g2 r n2 u2 C3 R3 => t_P_save_133 (x_make (rv := (p, false, M)) (by omega) C3 hwf q8 hp (fun z => by cases z) R3 (fun H3 g3 n3 u3 C4 => t_P_save_136 (k H3 g3 (by omega) (by omega) C4))))
      · rw [E1, eb] at q
        rw [e24] at q8
        rw [E1, E2] at qe
        rw [if_neg (no1 q), if_neg (by omega), if_pos qe] at k
        have R1 : gr (al (wi H g) 28 0 4) 19 1 = 20 := by rw [gr_al, if_neg (by show 19 ≠ nx H; omega)]; exact hF.r 19 1 20 rfl
        rw [E1, R1]
        refine x_newText (H := H) (g := g) (by omega) hF hF.t20 h.2.1 (by omega) (fun H1 g1 x1 f1 n1 u1 L1 X1 => t_P_save_69 ?_)
        have C2 : CI H1 g1 σ := h.ex x1 (fun a ha _ => f1 a ha) ⟨l36, h36.ex hF.t36 hF x1 (by omega) (f1 _ (by omega)) (f1 _ (by omega)) (f1 _ (by omega))⟩
        exact x_withText (by omega) C2 hp L1 X1 (Or.inr ⟨h71, by show nx H + 2 < nx H1; omega⟩) (fun H2 g2 r n2 u2 C3 R3 => t_P_save_72 (x_make (rv := (p, false, σ.2.1)) (by omega) C3 hwf q8 hp (fun z => by cases z) R3 (fun H3 g3 n3 u3 C4 => t_P_save_75 (k H3 g3 (by omega) (by omega) C4))))
      · rw [E1, eb] at q
        rw [e24] at q8
        rw [if_neg (no1 q), if_pos (by omega)] at k
        exact k H g (by omega) (by omega) h
      · rw [E1, eb] at q
        rw [if_pos (Or.inr (by rw [nI_ltI (by omega) hn]; omega))] at k
        exact k H g (by omega) (by omega) h
  · refine t_P_save_5 (by omega) (fun z => absurd rfl z) (fun z => absurd rfl z) (fun z => absurd rfl z) (fun z => absurd rfl z) (fun z => absurd rfl z) (fun z => absurd rfl z) (fun z => absurd rfl z) (fun z => absurd rfl z) (fun z => absurd rfl z) (fun z => absurd rfl z) (fun _ => ?_) (fun z => absurd rfl z) (fun z => absurd rfl z) (fun z => absurd rfl z) (fun z => absurd rfl z) (fun z => absurd rfl z)
    split at k
    · exact k H g (by omega) (by omega) h
    · rename_i hw
      rw [pgN_none (fun p hp e => hr ⟨hw, p, hp, e⟩)] at k
      exact k H g (by omega) (by omega) h
end SAV
