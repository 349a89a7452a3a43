/-! the class: the journal -/
section PD
variable {d : Nat} {Q : Option AV → AH → Prop} {H : AH} {g g' : Nat → Nat → Int32} {x y v c : Int32} {σ : SG} {p : Nat}
theorem CIr.j39 {K : Nat} {D : Tx} {R : List Rv} {ct wr ct' wr' : Int32} {dw cl dw' : Bool} {nb : Nat} {pd : Rv} {scr : Tx} (hF : Fix H) (h : CIr H g (K, D, R, ct, wr, dw, cl, nb, pd, scr)) (hf : ∀ a, a ≠ 39 → g' a = g a)
    (hJ : g' 39 0 = wr' ∧ g' 39 1 = ct' ∧ (ct' = -1 ∨ ¬ ct' < 0) ∧ g' 39 2 = zB dw') (hd : dw' = true → dw = true ∧ g' 39 3 = g 39 3 ∧ g' 39 4 = g 39 4) : CIr H g' (K, D, R, ct', wr', dw', cl, nb, pd, scr) := by
  obtain ⟨hK, gK, h23, h40, hP, -, hdd, hs⟩ := h
  refine ⟨hK, by rw [hf 19 (by decide)]; exact gK, h23.of hF.t23 (hf 23 (by decide)) (hf 24 (by decide)) (hf 25 (by decide)), by rw [hf 40 (by decide)]; exact h40, hP.fr (fun a _ ha => hf a ha), hJ, fun q => ?_, by rw [hf 56 (by decide), hf 57 (by decide)]; exact hs⟩
  obtain ⟨q1, q2, q3⟩ := hd q
  obtain ⟨a1, a2, a3, a4, a5, a6, a7, a8⟩ := hdd q1
  exact ⟨by rw [q2]; exact a1, by rw [q3]; exact a2, a3, by rw [hf 19 (by decide)]; exact a4, a5, a6, a7, a8.fr (fun a _ ha => hf a ha)⟩
theorem CI.j39 {σ' : SG} (h : CI H g σ) (hf : ∀ a, a ≠ 39 → g' a = g a) (hD : σ'.2.1 = σ.2.1) (hr : CIr H g' σ') : CI H g' σ' := by
  obtain ⟨hF, h20, ⟨l36, h36⟩, -⟩ := h
  exact ⟨hF, by rw [hD]; exact h20.of hF.t20 (hf 20 (by decide)) (hf 21 (by decide)) (hf 22 (by decide)), ⟨l36, h36.of hF.t36 (hf 36 (by decide)) (hf 37 (by decide)) (hf 38 (by decide))⟩, hr⟩
theorem x_cut (hd : 2 ≤ d) (h : CI H g σ) (k : ∀ g', CI H g' (sp_cut σ x).2 → Q (some (vI (sp_cut σ x).1)) (wi H g')) : cwp d 107 [vR 19, vI x] (wi H g) Q := by
  have hF := h.1
  have hd2 := h.dw
  have hr := h.rst
  obtain ⟨K, D, R, ct, wr, dw, cl, nb, pd, scr⟩ := σ
  have hd2 : g 39 2 = zB dw := hd2
  unfold sp_cut at k
  dsimp only at k
  refine e_P_cut (by omega) (hF.c 19 30 rfl) (f_P_cut_0 (by omega) hF (fun _ => by rw [hd2]; exact fits1 _) (fun q => ?_) (fun q q2 => ?_) (fun q q2 => ?_))
  · rw [if_pos (Or.inr q)] at k
    exact k g h
  · rw [hd2, zB_0] at q2
    rw [if_neg (fun z => z.elim (fun z => by rw [q2] at z; cases z) q)] at k
    refine e_Journal_cutNextAfter (by omega) (hF.c 39 20 rfl) (f_Journal_cutNextAfter_0 hF (f_P_cut_24 hF (k _ ?_)))
    have hf : ∀ a, a ≠ 39 → sm_u2 g 39 1 x a = g a := fun a ha => u2_na ha
    obtain ⟨-, -, -, -, -, hJ, -, -⟩ := hr
    refine h.j39 hf rfl (CIr.j39 hF h.rst hf ⟨?_, u2_self, Or.inr q, ?_⟩ (fun z => by rw [q2] at z; cases z))
    · rw [u2_ne (Or.inr (by decide))]; exact hJ.1
    · rw [u2_ne (Or.inr (by decide))]; exact hd2
  · rw [hd2, zB_0] at q2
    rw [if_pos (Or.inl (by simpa using q2))] at k
    exact k g h
end PD
