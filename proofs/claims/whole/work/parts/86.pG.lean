/-! the class: recover -/
section PG
variable {d : Nat} {Q : Option AV → AH → Prop} {H : AH} {g g' : Nat → Nat → Int32} {x : Int32} {K r n p : Nat} {P : List (Bool × Tx)} {e : Bool × Tx} {R : List Rv} {σ : SG}
theorem nI_anti {a b : Int32} (h1 : a ≤ b) (h2 : ¬ a < b) : a = b := Int32.le_antisymm h1 (Int32.not_lt.mp h2)
theorem ci_sr19 {v : Nat} (hnp : σ.2.2.2.2.2.1 = false) (h : CI H g σ) : CI (sr H 19 9 v) g σ := by
  obtain ⟨hF, h20, ⟨l36, h36⟩, hr⟩ := h
  obtain ⟨K, D, R, ct, wr, dw, cl, nb, pd, scr⟩ := σ
  have hnp : dw = false := hnp
  obtain ⟨hK, gK, h23, h40, hP, hJ, -, hs⟩ := hr
  exact ⟨fix_sr hF rfl, tx_sr h20 (by decide), ⟨l36, tx_sr h36 (by decide)⟩, hK, gK, tx_sr h23 (by decide), h40, pg_sr hF hP, hJ, (fun z => by rw [hnp] at z; cases z), hs⟩
theorem x_recover (hd : 4 ≤ d) (h : CI H g σ) (k : ∀ H' g', nx H' = nx H → su H' = su H → CI H' g' (sp_recover σ x).2 → Q (some (vI (sp_recover σ x).1)) (wi H' g')) : cwp d 108 [vR 19, vI x] (wi H g) Q := by
  have hF := h.1
  have hd2 := h.dw
  have hrst := h.rst
  have hCI := h
  have h20 := h.2.1
  have h36 := h.2.2.1
  obtain ⟨K, D, R, ct, wr, dw, cl, nb, pd, scr⟩ := σ
  have hd2 : g 39 2 = zB dw := hd2
  have h20 : TX H g 20 D := h20
  have hsp : sp_recover (K, D, R, ct, wr, dw, cl, nb, pd, scr) x = if dw = false ∨ x < 1 then (-1, K, D, R, ct, wr, dw, cl, nb, pd, scr) else if cl = true then
      (if nI (nb + 1) ≤ x then (nI (nb + 1), K, D, R ++ [pd], ct, wr + nI (nb + 1), false, cl, nb, pd, scr) else (x, K, D, R, ct, wr + x, dw, cl, nb, pd, scr))
    else (1, K, D, R, ct, wr + 1, false, cl, nb, pd, scr) := rfl
  rw [hsp] at k
  clear hsp
  refine e_P_recover (by omega) (hF.c 19 30 rfl) (f_P_recover_0 (by omega) hF (fun _ => by rw [hd2]; exact fits1 _) (fun q => ?_) (fun q q2 => ?_) (fun q q2 => ?_))
  · rw [if_pos (Or.inr q)] at k
    exact k H g rfl rfl h
  · rw [hd2, zB_0] at q2
    have hdw : dw = true := by simpa using q2
    rw [if_neg (fun z => z.elim (fun z => q2 z) q)] at k
    obtain ⟨hK, gK, h23, h40, hP, ⟨j0, j1, j2, j3⟩, hpd, hs⟩ := hrst
    obtain ⟨a1, a2, a3, a4, a5, a6, a7, a8⟩ := hpd hdw
    obtain ⟨l36, h36⟩ := h36
    have ap : gr H 19 9 ≠ 0 := by have := a8.2.1; omega
    -- behind the journal's own work
    have end0 : ∀ (g1 : Nat → Nat → Int32) (M : Nat), (∀ a, a ≠ 39 → g1 a = g a) → g1 39 0 = wr + nI M → g1 39 1 = ct → g1 39 2 = 0 → g1 39 3 = zB cl → (∀ H' g', nx H' = nx H → su H' = su H → CI H' g' (K, D, (if cl = true then R ++ [pd] else R), ct, wr + nI M, false, cl, nb, pd, scr) → Q (some (vI (nI M))) (wi H' g')) →
        wp (d - 1) sc_P_recover 25 [vR 19, vI x, vU] [vI (nI M)] (wi H g1) Q := by
      intro g1 M f1 q0 q1 q2 q3 kk
      refine f_P_recover_25 (by omega) hF (by rw [q2]; exact Or.inl rfl) (fun z => absurd q2 z) (fun _ => e_P_endPending (by omega) (hF.c 19 30 rfl) (f_P_endPending_0 (by omega) hF (fun _ => by rw [q3]; exact fits1 _) (fun z => absurd z ap) (fun _ z => ?_) (fun _ z => ?_)))
      · rw [q3, zB_0] at z
        rw [if_neg (by rw [z]; decide)] at kk
        refine f_P_recover_40 (fix_sr hF rfl) (kk _ g1 rfl rfl (ci_sr19 rfl (hCI.j39 f1 rfl (CIr.j39 hF hCI.rst f1 ⟨q0, q1, j2, by rw [q2]; rfl⟩ (fun w => by cases w)))))
      · rw [q3, zB_0] at z
        rw [if_pos (by simpa using z)] at kk
        have e19 : g1 19 = g 19 := f1 19 (by decide)
        rw [e19, a4]
        refine x_keep (by omega) hF (hP.fr (fun a _ ha => f1 a ha)) a6 a5 a7 (a8.fr (fun a _ ha => f1 a ha)) (fun g2 f2 f19 hP2 => ?_)
        have lk : lk2 fRL (42 + 2 * pd.1) ((pg R pd.1).length + 1) = none := by
          have e : pd.1 = 0 ∨ pd.1 = 1 ∨ pd.1 = 2 ∨ pd.1 = 3 ∨ pd.1 = 4 ∨ pd.1 = 5 := by omega
          rcases e with e | e | e | e | e | e <;> rw [e] <;> rfl
        have fH2 : Fix (sr H (42 + 2 * pd.1) ((pg R pd.1).length + 1) (gr H 19 9)) := fix_sr hF lk
        refine f_P_endPending_29 fH2 (f_P_recover_40 (fix_sr fH2 rfl) (kk _ g2 rfl rfl (ci_sr19 rfl ?_)))
        have f12 : ∀ a, a ≠ 19 → a ≠ 39 → (∀ q, q < 6 → a ≠ 41 + 2 * q) → g2 a = g a := fun a z1 z2 z3 => by rw [f2 a z1 z3, f1 a z2]
        have e39 : g2 39 = g1 39 := f2 39 (by decide) (fun q hq => by omega)
        have tx : ∀ t l, t = 20 ∨ t = 23 ∨ t = 36 → TL H t → TX H g t l → TX (sr H (42 + 2 * pd.1) ((pg R pd.1).length + 1) (gr H 19 9)) g2 t l := fun t l ht hL hX => by
          refine tx_sr (hX.of hL (f12 _ (by omega) (by omega) (fun q hq => by omega)) (f12 _ (by omega) (by omega) (fun q hq => by omega)) (f12 _ (by omega) (by omega) (fun q hq => by omega))) (by omega)
        refine ⟨fH2, tx 20 D (by decide) hF.t20 h20, ⟨l36, tx 36 l36 (by decide) hF.t36 h36⟩, hK, by rw [f19 0 (by decide), f1 19 (by decide)]; exact gK, tx 23 [] (by decide) hF.t23 h23, by rw [f12 40 (by decide) (by decide) (fun q hq => by omega)]; exact h40, hP2, ⟨by rw [e39]; exact q0, by rw [e39]; exact q1, j2, by rw [e39, q2]; rfl⟩, (fun z => by cases z), ?_⟩
        rw [f12 56 (by decide) (by decide) (fun q hq => by omega), f12 57 (by decide) (by decide) (fun q hq => by omega)]
        exact hs
    generalize hM : (if cl = true then nb + 1 else 1) = M at *
    have hM2 : M < 2 ^ 31 := by rw [← hM]; split <;> omega
    have u39 : ∀ (v w : Int32) a, a ≠ 39 → sm_u2 (sm_u2 g 39 0 v) 39 2 w a = g a := fun v w a ha => by rw [u2_na ha, u2_na ha]
    refine e_Journal_recoverWith (by omega) (hF.c 39 20 rfl) (f_Journal_recoverWith_0 hF (fun z => ?_) (fun z => ?_))
    · rw [a2] at z
      have ed : (if nI M < x then nI M else x) = nI M := by
        split
        · rfl
        · rename_i w
          rw [if_neg w] at z
          exact (nI_anti z w).symm
      have hle : nI M ≤ x := by
        by_cases w : nI M < x
        · exact Int32.le_of_lt w
        · rw [if_neg w] at z; exact z
      rw [a2, ed, j0]
      refine end0 _ M (u39 _ _) (by rw [u2_ne (Or.inr (by decide)), u2_self]) (by rw [u2_ne (Or.inr (by decide)), u2_ne (Or.inr (by decide))]; exact j1) u2_self (by rw [u2_ne (Or.inr (by decide)), u2_ne (Or.inr (by decide))]; exact a1) (fun H' g' n1 n2 hc => ?_)
      by_cases hcl : cl = true
      · rw [if_pos hcl] at k hc hM
        rw [← hM] at hle hc ⊢
        rw [if_pos hle] at k
        exact k H' g' n1 n2 hc
      · rw [if_neg hcl] at k hc hM
        rw [← hM] at hc ⊢
        exact k H' g' n1 n2 hc
    · rw [a2] at z
      have hw : ¬ nI M < x := fun w => z (by rw [if_pos w]; exact Int32.le_refl _)
      rw [if_neg hw] at z
      rw [a2, if_neg hw, j0]
      have hcl : cl = true := by
        cases hc : cl with
        | true => rfl
        | false =>
          rw [hc] at hM
          have : M = 1 := by rw [← hM]; rfl
          rw [this] at z
          exact absurd (Int32.not_lt.mp q) z
      rw [if_pos hcl] at k hM
      rw [← hM] at z
      rw [if_neg z] at k
      have e22 : sm_u2 (sm_u2 g 39 0 (wr + x)) 39 2 1 39 2 = 1 := u2_self
      refine f_P_recover_25 (by omega) hF (by rw [e22]; exact Or.inr rfl) (fun _ => k H _ rfl rfl ?_) (fun w => absurd w (by rw [e22]; decide))
      refine hCI.j39 (u39 _ _) rfl (CIr.j39 hF hCI.rst (u39 _ _) ⟨by rw [u2_ne (Or.inr (by decide)), u2_self], by rw [u2_ne (Or.inr (by decide)), u2_ne (Or.inr (by decide))]; exact j1, j2, by rw [e22, hdw]; rfl⟩ (fun _ => ⟨hdw, by rw [u2_ne (Or.inr (by decide)), u2_ne (Or.inr (by decide))], by rw [u2_ne (Or.inr (by decide)), u2_ne (Or.inr (by decide))]⟩))
  · rw [hd2, zB_0] at q2
    rw [if_pos (Or.inl q2)] at k
    exact k H g rfl rfl h
end PG
