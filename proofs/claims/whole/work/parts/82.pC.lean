/-! the class: cut, shown, length, writes -/
section PC
variable {d : Nat} {Q : Option AV → AH → Prop} {H : AH} {g g' : Nat → Nat → Int32} {x y v c : Int32} {σ : SG} {p : Nat}
theorem x_length (hd : 2 ≤ d) (h : CI H g σ) (k : Q (some (vI (nI σ.2.1.length))) (wi H g)) : cwp d 94 [vR 19] (wi H g) Q := by
  have hF := h.1
  have e : gr (wi H g) 19 1 = 20 := hF.r 19 1 20 rfl
  refine s_P_length hd (hF.c 19 30 rfl) (by rw [e]; exact hF.c 20 28 rfl) ?_
  rw [e, wi_gi, h.2.1.2.2.1]
  exact k
theorem x_writes (hd : 2 ≤ d) (h : CI H g σ) (k : Q (some (vI σ.2.2.2.2.1)) (wi H g)) : cwp d 109 [vR 19] (wi H g) Q := by
  have hF := h.1
  have e : gr (wi H g) 19 7 = 39 := hF.r 19 7 39 rfl
  have ew : g 39 0 = σ.2.2.2.2.1 := by
    have hr := h.rst
    obtain ⟨K, D, R, ct, wr, dw, cl, nb, pd, scr⟩ := σ
    exact hr.2.2.2.2.2.1.1
  refine s_P_writes hd (hF.c 19 30 rfl) (by rw [e]; exact hF.c 39 20 rfl) ?_
  rw [e, wi_gi, ew]
  exact k
theorem CI.scr (h : CI H g σ) : σ.2.2.2.2.2.2.2.2.2.length ≤ 200 ∧ okT σ.2.2.2.2.2.2.2.2.2 ∧ g 56 1 = nI σ.2.2.2.2.2.2.2.2.2.length ∧ ∀ j, j < σ.2.2.2.2.2.2.2.2.2.length → g 57 j = tf σ.2.2.2.2.2.2.2.2.2 j := by
  have hr := h.rst
  obtain ⟨K, D, R, ct, wr, dw, cl, nb, pd, scr⟩ := σ
  exact hr.2.2.2.2.2.2.2
theorem x_shown (hd : 3 ≤ d) (h : CI H g σ) (k : Q (some (vI (sp_shown σ x))) (wi H g)) : cwp d 106 [vR 19, vI x] (wi H g) Q := by
  have hF := h.1
  obtain ⟨s1, s2, s3, s4⟩ := h.scr
  unfold sp_shown at k
  generalize σ.2.2.2.2.2.2.2.2.2 = S at *
  have at' : ¬ x < 0 → x < g 56 1 → vp_in x 200 ∧ g 57 x.toNatClampNeg = tf S x.toNatClampNeg ∧ okc (tf S x.toNatClampNeg) := fun q q2 => by
    obtain ⟨j, hj, rfl⟩ := nI_of q
    rw [s3, nI_ltI hj (by omega)] at q2
    rw [nI_clamp hj]
    exact ⟨vp_in_nI (by omega) (by decide), s4 j q2, s2 j q2⟩
  refine e_P_shown (by omega) (hF.c 19 30 rfl) (f_P_shown_0 hF (e_Viewer_viewed (by omega) (hF.c 53 29 rfl) (f_Viewer_viewed_0 (by omega) hF (fun q q2 => (at' q q2).1) (fun q q2 => by rw [(at' q q2).2.1]; exact (at' q q2).2.2) (fun q => f_P_shown_8 hF ?_) (fun q q2 => f_P_shown_8 hF ?_) (fun q q2 => f_P_shown_8 hF ?_))))
  · rw [if_pos (Or.inl q)] at k
    exact k
  · rw [(at' q q2).2.1]
    rw [if_neg (fun z => z.elim q (fun z => by rw [s3] at q2; exact absurd q2 (Int32.not_lt.mpr z)))] at k
    exact k
  · rw [if_pos (Or.inr (by rw [s3] at q2; exact Int32.not_lt.mp q2))] at k
    exact k
end PC
