/-! the class: calls with a revision -/
section PB
variable {d : Nat} {Q : Option AV → AH → Prop} {H : AH} {g g' : Nat → Nat → Int32} {x y v c : Int32} {σ : SG} {p : Nat}
theorem CI.rst (h : CI H g σ) : CIr H g σ := h.2.2.2
theorem CI.nw (h : CI H g σ) (hp : p < 6) : ∃ r t, gr H (42 + 2 * p) (pg σ.2.2.1 p).length = r ∧ (kd H r).1 = 25 ∧ g r 1 = zB (!thB σ.2.2.1 p) ∧ gr H r 0 = t ∧ TL H t ∧ TX H g t (ntx σ.2.2.1 p) ∧ (t = 23 ∨ 71 ≤ t) := by
  have hF := h.1
  obtain ⟨a1, ⟨a2, a3⟩, a4⟩ := h.pgc.2.2.2 p hp
  have hr := h.rst
  by_cases hl : (pg σ.2.2.1 p).length = 0
  · have e : pg σ.2.2.1 p = [] := List.length_eq_zero_iff.mp hl
    have et : thB σ.2.2.1 p = false := by unfold thB; rw [e]; rfl
    have en : ntx σ.2.2.1 p = [] := by unfold ntx; rw [hl]; rfl
    refine ⟨40, 23, by rw [hl]; exact a3, hF.c 40 25 rfl, ?_, hF.r 40 0 23 rfl, hF.t23, ?_, Or.inl rfl⟩
    · obtain ⟨K, D, R, ct, wr, dw, cl, nb, pd, scr⟩ := σ
      rw [et]
      exact hr.2.2.2.1.1
    · rw [en]
      obtain ⟨K, D, R, ct, wr, dw, cl, nb, pd, scr⟩ := σ
      exact hr.2.2.1
  · have hg : (pg σ.2.2.1 p)[(pg σ.2.2.1 p).length - 1]? = some ((pg σ.2.2.1 p)[(pg σ.2.2.1 p).length - 1]'(by omega)) := List.getElem?_eq_getElem (by omega)
    generalize (pg σ.2.2.1 p)[(pg σ.2.2.1 p).length - 1]'(by omega) = e at hg
    obtain ⟨b1, b2, b3, b4, b5, b6, b7, b8, b9⟩ := a4 (pg σ.2.2.1 p).length e (by omega) hg
    have et : thB σ.2.2.1 p = !e.1 := by unfold thB; rw [getLast_eq, hg]
    have en : ntx σ.2.2.1 p = e.2 := by
      unfold ntx rtx
      rw [if_neg hl, List.getD_eq_getElem?_getD, hg]
      rfl
    refine ⟨_, _, rfl, b1, by rw [et, Bool.not_not]; exact b7, rfl, b5, by rw [en]; exact b6, ?_⟩
    rcases b4 with q | q
    · exact Or.inl q
    · exact Or.inr q.1
theorem x_hasRevision (hd : 3 ≤ d) (h : CI H g σ) (k1 : ∀ p n e, ¬ σ.2.2.2.2.2.1 = true → p < 6 → 1 ≤ n → n ≤ (pg σ.2.2.1 p).length → x = nI p → v = nI n → (pg σ.2.2.1 p)[n - 1]? = some e → Q (some (vI 1)) (wi H g)) (k0 : (σ.2.2.2.2.2.1 = true ∨ rvN σ.2.2.1 x v = none) → Q (some (vI 0)) (wi H g)) : cwp d 113 [vR 19, vI x, vI v] (wi H g) Q := by
  have hF := h.1
  refine e_P_hasRevision (by omega) (hF.c 19 30 rfl) (f_P_hasRevision_0 hF (x_isUsable (by omega) h (fun r hr => ?_)))
  rcases hr with ⟨⟨h1, p, hp, rfl⟩, rfl⟩ | ⟨hr, rfl⟩
  · obtain ⟨a1, ⟨a2, -⟩, -⟩ := h.pgc.2.2.2 p hp
    have hle := pg_le σ.2.2.1 p
    have h24 := h.pgc.1
    have ep : gr H 26 (nI p).toNatClampNeg = 41 + 2 * p := by rw [nI_clamp (by omega)]; exact a2
    refine f_P_hasRevision_5 (by omega) hF (fun _ _ => vp_in_nI hp (by decide)) (fun _ _ => by rw [ep]; exact (fx_pg hF hp).1) (fun z => absurd z (by decide)) (fun _ q => k0 (Or.inr (rvN_1 q))) (fun _ q q2 => ?_) (fun _ q q2 => ?_)
    · obtain ⟨n, n1, n2, rfl⟩ := nI_lt1 (Int32.not_lt.mp q)
      rw [ep, a1, nI_ltI (by omega) n2] at q2
      exact k0 (Or.inr (rvN_no hp n2 (Or.inr q2)))
    · obtain ⟨n, n1, n2, rfl⟩ := nI_lt1 (Int32.not_lt.mp q)
      rw [ep, a1, nI_ltI (by omega) n2] at q2
      exact k1 p n _ h1 hp n1 (by omega) rfl rfl (List.getElem?_eq_getElem (by omega))
  · refine f_P_hasRevision_5 (by omega) hF (fun z => absurd rfl z) (fun z => absurd rfl z) (fun _ => k0 ?_) (fun z => absurd rfl z) (fun z => absurd rfl z) (fun z => absurd rfl z)
    by_cases hw : σ.2.2.2.2.2.1 = true
    · exact Or.inl hw
    · exact Or.inr (rvN_p (fun p hp e => hr ⟨hw, p, hp, e⟩))
theorem x_size (hd : 4 ≤ d) (h : CI H g σ) (k : Q (some (vI (sp_size σ x v))) (wi H g)) : cwp d 102 [vR 19, vI x, vI v] (wi H g) Q := by
  have hF := h.1
  have h24 := h.pgc.1
  unfold sp_size at k
  refine e_P_size (by omega) (hF.c 19 30 rfl) (f_P_size_0 hF (x_hasRevision (by omega) h (fun p n e hw hp h1 hn hx hv he => ?_) (fun hno => ?_)))
  · subst hx hv
    have hle := pg_le σ.2.2.1 p
    obtain ⟨a1, ⟨a2, a3⟩, a4⟩ := h.pgc.2.2.2 p hp
    obtain ⟨c1, c2, c3⟩ := fx_pg hF hp
    obtain ⟨b1, b2, b3, b4, b5, b6, b7, b8, b9⟩ := a4 n e h1 he
    have ep : gr H 26 (nI p).toNatClampNeg = 41 + 2 * p := by rw [nI_clamp (by omega)]; exact a2
    have en : (nI n).toNatClampNeg = n := nI_clamp (by omega)
    rw [if_neg hw, rvN_at hp h1 (by omega) he] at k
    refine f_P_size_6 (by omega) hF (fun _ => vp_in_nI hp (by decide)) (fun _ => by rw [ep]; exact c1) (fun _ => by rw [ep, c2, c3]) (fun _ => by rw [ep, c2, c3]; exact vp_in_nI (by show _ < 25; omega) (by decide)) (fun _ => by rw [ep, c2, en]; exact b1) (fun z => absurd z (by decide)) (fun _ => ?_)
    rw [ep, c2, en, b8]
    exact k
  · refine f_P_size_6 (by omega) hF (fun z => absurd rfl z) (fun z => absurd rfl z) (fun z => absurd rfl z) (fun z => absurd rfl z) (fun z => absurd rfl z) (fun _ => ?_) (fun z => absurd rfl z)
    split at k
    · exact k
    · rename_i hw
      rw [hno.resolve_left hw] at k
      exact k
theorem x_load (hd : 4 ≤ d) (h : CI H g σ) (k : ∀ g', CI H g' (sp_load σ x v).2 → Q (some (vI (sp_load σ x v).1)) (wi H g')) : cwp d 99 [vR 19, vI x, vI v] (wi H g) Q := by
  have hF := h.1
  have h24 := h.pgc.1
  unfold sp_load at k
  refine e_P_load (by omega) (hF.c 19 30 rfl) (f_P_load_0 hF (x_hasRevision (by omega) h (fun p n e hw hp h1 hn hx hv he => ?_) (fun hno => ?_)))
  · subst hx hv
    have hle := pg_le σ.2.2.1 p
    obtain ⟨a1, ⟨a2, a3⟩, a4⟩ := h.pgc.2.2.2 p hp
    obtain ⟨c1, c2, c3⟩ := fx_pg hF hp
    obtain ⟨b1, b2, b3, b4, b5, b6, b7, b8, b9⟩ := a4 n e h1 he
    have ep : gr H 26 (nI p).toNatClampNeg = 41 + 2 * p := by rw [nI_clamp (by omega)]; exact a2
    have en : (nI n).toNatClampNeg = n := nI_clamp (by omega)
    rw [if_neg hw, rvN_at hp h1 (by omega) he] at k
    have v3 : vp_in (nI n) (kd H (gr H (gr H 26 (nI p).toNatClampNeg) 0)).2 := by rw [ep, c2, c3]; exact vp_in_nI (by show _ < 25; omega) (by decide)
    have k4 : (kd H (gr H (gr H (gr H 26 (nI p).toNatClampNeg) 0) (nI n).toNatClampNeg)).1 = 25 := by rw [ep, c2, en]; exact b1
    refine f_P_load_6 (by omega) hF (fun _ => vp_in_nI hp (by decide)) (fun _ => by rw [ep]; exact c1) (fun _ => by rw [ep, c2, c3]) (fun _ => v3) (fun _ => k4) (fun _ => ?_) (fun z => absurd z (by decide))
    rw [ep, c2, en]
    refine x_copyFrom (by omega) hF.t20.1 h.2.1 b5.1 b6 (by omega) (fun g' hX hf => ?_)
    refine f_P_load_31 (by omega) hF (vp_in_nI hp (by decide)) (by rw [ep]; exact c1) (by rw [ep, c2, c3]) v3 k4 ?_
    rw [ep, c2, en]
    have er : g' (gr H (42 + 2 * p) n) = g (gr H (42 + 2 * p) n) := hf _ (by omega) (by rw [hF.t20.2.1]; omega) (by rw [hF.t20.2.2]; omega)
    rw [er, b9]
    exact k g' (h.draft hX hf)
  · refine f_P_load_6 (by omega) hF (fun z => absurd rfl z) (fun z => absurd rfl z) (fun z => absurd rfl z) (fun z => absurd rfl z) (fun z => absurd rfl z) (fun z => absurd rfl z) (fun _ => ?_)
    split at k
    · exact k g h
    · rename_i hw
      rw [hno.resolve_left hw] at k
      exact k g h
theorem x_there (hd : 3 ≤ d) (h : CI H g σ) (k : Q (some (vI (sp_there σ x))) (wi H g)) : cwp d 101 [vR 19, vI x] (wi H g) Q := by
  have hF := h.1
  have h24 := h.pgc.1
  unfold sp_there at k
  refine e_P_there (by omega) (hF.c 19 30 rfl) (f_P_there_0 hF (x_isUsable (by omega) h (fun r hr => ?_)))
  rcases hr with ⟨⟨h1, p, hp, rfl⟩, rfl⟩ | ⟨hr, rfl⟩
  · obtain ⟨a1, ⟨a2, -⟩, -⟩ := h.pgc.2.2.2 p hp
    have hle := pg_le σ.2.2.1 p
    obtain ⟨c1, c2, c3⟩ := fx_pg hF hp
    obtain ⟨r, t, n1, n2, n3, -⟩ := h.nw hp
    have ep : gr H 26 (nI p).toNatClampNeg = 41 + 2 * p := by rw [nI_clamp (by omega)]; exact a2
    have ex : thX σ.2.2.1 (nI p) = thB σ.2.2.1 p := by unfold thX; rw [pgN_some hp]
    rw [if_neg h1, ex] at k
    refine f_P_there_5 hF (fun _ => vp_in_nI hp (by decide)) (fun z => absurd z (by decide)) (fun _ => ?_)
    rw [ep]
    have er : gr (wi H g) (gr (wi H g) (41 + 2 * p) 0) (gi (wi H g) (41 + 2 * p) 1).toNatClampNeg = r := by rw [wi_gr, wi_gr, wi_gi, a1, c2, nI_clamp (by omega)]; exact n1
    refine e_Page_isThere (by omega) c1 (t_Page_isThere_0 c1 (by rw [wi_kd, wi_gr, c2, c3]) (by rw [wi_kd, wi_gr, c2, c3, wi_gi, a1]; exact vp_in_nI (by show _ < 25; omega) (by decide)) (by rw [er]; exact n2) (fun q => ?_) (fun q => ?_))
    · rw [er, wi_gi, n3, zB_0] at q
      rw [if_neg (by simpa using q)] at k
      exact f_P_there_17 hF (fun _ => k) (fun z => absurd rfl z)
    · rw [er, wi_gi, n3, zB_0] at q
      rw [if_pos (by simpa using q)] at k
      exact f_P_there_17 hF (fun z => absurd z (by decide)) (fun _ => k)
  · refine f_P_there_5 hF (fun z => absurd rfl z) (fun _ => ?_) (fun z => absurd rfl z)
    split at k
    · exact k
    · rename_i hw
      have ex : thX σ.2.2.1 x = false := by unfold thX; rw [pgN_none (fun p hp e => hr ⟨hw, p, hp, e⟩)]
      rw [ex] at k
      exact k
end PB
