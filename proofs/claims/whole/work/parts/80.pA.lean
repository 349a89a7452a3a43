/-! the class: calls that change the draft alone or nothing -/
section PA
variable {d : Nat} {Q : Option AV → AH → Prop} {H : AH} {g g' : Nat → Nat → Int32} {x y v c : Int32} {σ : SG} {p : Nat}
theorem fx_pg (hF : Fix H) (hp : p < 6) : (kd H (41 + 2 * p)).1 = 24 ∧ gr H (41 + 2 * p) 0 = 42 + 2 * p ∧ kd H (42 + 2 * p) = (65, 25) := by
  have e : p = 0 ∨ p = 1 ∨ p = 2 ∨ p = 3 ∨ p = 4 ∨ p = 5 := by omega
  rcases e with rfl | rfl | rfl | rfl | rfl | rfl
  · exact ⟨hF.c 41 24 rfl, hF.r 41 0 42 rfl, hF.2.1 42 _ rfl⟩
  · exact ⟨hF.c 43 24 rfl, hF.r 43 0 44 rfl, hF.2.1 44 _ rfl⟩
  · exact ⟨hF.c 45 24 rfl, hF.r 45 0 46 rfl, hF.2.1 46 _ rfl⟩
  · exact ⟨hF.c 47 24 rfl, hF.r 47 0 48 rfl, hF.2.1 48 _ rfl⟩
  · exact ⟨hF.c 49 24 rfl, hF.r 49 0 50 rfl, hF.2.1 50 _ rfl⟩
  · exact ⟨hF.c 51 24 rfl, hF.r 51 0 52 rfl, hF.2.1 52 _ rfl⟩
theorem CI.dw (h : CI H g σ) : g 39 2 = zB σ.2.2.2.2.2.1 := by
  obtain ⟨K, D, R, ct, wr, dw, cl, nb, pd, scr⟩ := σ
  exact h.2.2.2.2.2.2.2.2.1.2.2.2
theorem CI.pgc (h : CI H g σ) : PGc H g σ.1 σ.2.2.1 := by
  obtain ⟨K, D, R, ct, wr, dw, cl, nb, pd, scr⟩ := σ
  exact h.2.2.2.2.2.2.2.1
theorem fits1 (b : Bool) : sm_fits 1 (zB b) := by cases b <;> simp [sm_fits, zB]
theorem x_isUsable (hd : 2 ≤ d) (h : CI H g σ) (k : ∀ r, bI (¬ σ.2.2.2.2.2.1 = true ∧ ∃ p : Nat, p < 6 ∧ x = nI p) r → Q (some (vI r)) (wi H g)) : cwp d 112 [vR 19, vI x] (wi H g) Q := by
  have hF := h.1
  have hd2 := h.dw
  refine e_P_isUsable (by omega) (hF.c 19 30 rfl) (f_P_isUsable_0 (by omega) hF (fun _ _ => by rw [hd2]; exact fits1 _) (fun q => k _ (Or.inr ⟨?_, rfl⟩)) (fun q q2 => k _ (Or.inr ⟨?_, rfl⟩)) (fun q q2 q3 => k _ (Or.inr ⟨?_, rfl⟩)) (fun q q2 q3 => k _ (Or.inl ⟨⟨?_, ?_⟩, rfl⟩)))
  · rintro ⟨-, p, hp, rfl⟩
    exact absurd q (nI_pos (by omega))
  · rintro ⟨-, p, hp, rfl⟩
    rw [show (6 : Int32) = nI 6 from rfl, nI_leI (by decide) (by omega)] at q2
    omega
  · rw [hd2, zB_0] at q3
    rintro ⟨z, -⟩
    exact z (by simpa using q3)
  · rw [hd2, zB_0] at q3
    rw [q3]
    decide
  · obtain ⟨j, hj, rfl⟩ := nI_of q
    rw [show (6 : Int32) = nI 6 from rfl, nI_leI (by decide) hj] at q2
    exact ⟨j, by omega, rfl⟩
theorem x_put (hd : 3 ≤ d) (h : CI H g σ) (k : ∀ g', CI H g' (sp_put σ x c).2 → Q (some (vI (sp_put σ x c).1)) (wi H g')) : cwp d 91 [vR 19, vI x, vI c] (wi H g) Q := by
  have hF := h.1
  have hX := h.2.1
  have hl := hX.2.1
  have hn := nLn_le σ.2.1
  refine e_P_put (by omega) (hF.c 19 30 rfl) (f_P_put_0 hF (x_hasLine (by omega) hF.t20.1 hX (fun hno => ?_) (fun i hi e => ?_)))
  · refine f_P_put_8 hF (fun _ => ?_) (fun z => absurd rfl z)
    unfold sp_put at k
    rw [lnN_none hl hno] at k
    exact k g h
  · subst e
    unfold sp_put at k
    rw [lnN_some hi hl] at k
    dsimp only at k
    refine f_P_put_8 hF (fun z => absurd z (by decide)) (fun _ => x_isPrinted (by omega) (fun r hr => ?_))
    have v1 : vp_in (nI i + 1) 42 := by rw [nI_1]; exact vp_in_nI (by omega) (by decide)
    rcases hr with ⟨hr, rfl⟩ | ⟨hr, rfl⟩
    · refine f_P_put_15 (by omega) hF (fun _ => v1) (fun z => absurd z (by decide)) (fun _ => ?_)
      have es : g 22 (nI i + 1).toNatClampNeg - 1 = nI (eLn σ.2.1 i) := by
        have := hX.st (i := i + 1) (by omega)
        rw [hF.t20.2.2] at this
        rw [nI_1, nI_clamp (by omega), this, po_s hi, nI_sub1]
      rw [es]
      refine x_insert (by omega) hF.t20.1 hX (eLn_spec hi).2.1 (prn_ok hr) (fun q => f_P_put_34 hF (fun _ => ?_) (fun z => absurd rfl z)) (fun q g' hX' hf => f_P_put_34 hF (fun z => absurd z (by decide)) (fun _ => ?_))
      · rw [if_neg (fun z => by have := z.2; omega)] at k
        exact k g h
      · rw [if_pos ⟨hr, q⟩] at k
        exact k g' (h.draft hX' hf)
    · refine f_P_put_15 (by omega) hF (fun z => absurd rfl z) (fun _ => ?_) (fun z => absurd rfl z)
      rw [if_neg (fun z => hr z.1)] at k
      exact k g h
theorem x_drop (hd : 3 ≤ d) (h : CI H g σ) (k : ∀ g', CI H g' (sp_drop σ x).2 → Q (some (vI (sp_drop σ x).1)) (wi H g')) : cwp d 92 [vR 19, vI x] (wi H g) Q := by
  have hF := h.1
  have hX := h.2.1
  have hl := hX.2.1
  refine e_P_drop (by omega) (hF.c 19 30 rfl) (f_P_drop_0 hF (x_hasLine (by omega) hF.t20.1 hX (fun hno => ?_) (fun i hi e => ?_)))
  · refine f_P_drop_8 hF (fun z => absurd rfl z) (fun _ => ?_)
    unfold sp_drop at k
    rw [lnN_none hl hno] at k
    exact k g h
  · subst e
    unfold sp_drop at k
    rw [lnN_some hi hl] at k
    exact f_P_drop_8 hF (fun _ => x_takeOut (by omega) hF.t20.1 hX hi (fun g' hX' hf => f_P_drop_21 hF (k g' (h.draft hX' hf)))) (fun z => absurd z (by decide))
theorem x_at (hd : 2 ≤ d) (h : CI H g σ) (k : Q (some (vI (sp_at σ x))) (wi H g)) : cwp d 95 [vR 19, vI x] (wi H g) Q := by
  have hF := h.1
  have hX := h.2.1
  have hl := hX.2.1
  have e2 : g 20 2 = nI σ.2.1.length := hX.2.2.1
  have at' : ¬ x < 0 → x < g 20 2 → vp_in x 40 ∧ g 21 x.toNatClampNeg = tf σ.2.1 x.toNatClampNeg ∧ okc (tf σ.2.1 x.toNatClampNeg) := fun q q2 => by
    obtain ⟨j, hj, rfl⟩ := nI_of q
    rw [e2, nI_ltI hj (by omega)] at q2
    rw [nI_clamp hj]
    have := hX.2.2.2.2.1 j q2
    rw [hF.t20.2.1] at this
    exact ⟨vp_in_nI (by omega) (by decide), this, hX.1 j q2⟩
  unfold sp_at at k
  refine e_P_at (by omega) (hF.c 19 30 rfl) (f_P_at_0 (by omega) hF (fun q q2 => (at' q q2).1) (fun q q2 => by rw [(at' q q2).2.1]; exact (at' q q2).2.2) (fun q => ?_) (fun q q2 => ?_) (fun q q2 => ?_))
  · rw [if_pos (Or.inl q)] at k
    exact k
  · rw [(at' q q2).2.1]
    rw [if_neg (fun z => z.elim q (fun z => by rw [e2] at q2; exact absurd q2 (Int32.not_lt.mpr z)))] at k
    exact k
  · rw [if_pos (Or.inr (by rw [e2] at q2; exact Int32.not_lt.mp q2))] at k
    exact k
theorem x_latest (hd : 3 ≤ d) (h : CI H g σ) (k : Q (some (vI (sp_latest σ x))) (wi H g)) : cwp d 100 [vR 19, vI x] (wi H g) Q := by
  have hF := h.1
  unfold sp_latest at k
  refine e_P_latest (by omega) (hF.c 19 30 rfl) (f_P_latest_0 hF (x_isUsable (by omega) h (fun r hr => ?_)))
  rcases hr with ⟨⟨h1, p, hp, rfl⟩, rfl⟩ | ⟨hr, rfl⟩
  · obtain ⟨a1, ⟨a2, -⟩, -⟩ := h.pgc.2.2.2 p hp
    have ep : gr H 26 (nI p).toNatClampNeg = 41 + 2 * p := by rw [nI_clamp (by omega)]; exact a2
    rw [if_neg h1, pgN_some hp] at k
    refine f_P_latest_5 (by omega) hF (fun _ => vp_in_nI hp (by decide)) (fun _ => by rw [ep]; exact (fx_pg hF hp).1) (fun z => absurd z (by decide)) (fun _ => ?_)
    rw [ep, a1]
    exact k
  · refine f_P_latest_5 (by omega) hF (fun z => absurd rfl z) (fun z => absurd rfl z) (fun _ => ?_) (fun z => absurd rfl z)
    split at k
    · exact k
    · rename_i h1
      rw [pgN_none (fun p hp e => hr ⟨h1, p, hp, e⟩)] at k
      exact k
end PA
