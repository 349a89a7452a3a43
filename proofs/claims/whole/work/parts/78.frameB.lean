/-! the reference and the class do not touch each other's cells -/
def Sr (n0 a : Nat) : Prop := a = 0 ∨ (58 ≤ a ∧ a ≤ 70) ∨ n0 ≤ a
def Sc (a : Nat) : Prop := ¬ (58 ≤ a ∧ a ≤ 70)
def R58 (H : AH) : Prop := (kd H 0).1 = 0 ∧ ∀ k, gr H 58 k = 0 ∨ (58 ≤ gr H 58 k ∧ gr H 58 k ≤ 70)
theorem all_range {n m : Nat} {p : Nat → Bool} (h : (List.range n).all p = true) (hm : m < n) : p m = true := by
  rw [List.all_eq_true] at h
  exact h m (List.mem_range.mpr hm)
section FRMB
variable {d m : Nat} {as : List AV} {H : AH} {Q : Option AV → AH → Prop}
theorem fk58 (hF : Fix H) {a : Nat} (h1 : 58 ≤ a) (h2 : a ≤ 70) (h3 : 20 ≤ (kd H a).1) : a = 58 := by
  have e : a = 58 ∨ a = 59 ∨ a = 60 ∨ a = 61 ∨ a = 62 ∨ a = 63 ∨ a = 64 ∨ a = 65 ∨ a = 66 ∨ a = 67 ∨ a = 68 ∨ a = 69 ∨ a = 70 := by omega
  rcases e with rfl | rfl | rfl | rfl | rfl | rfl | rfl | rfl | rfl | rfl | rfl | rfl | rfl
  · rfl
  · rw [hF.c 59 1 rfl] at h3; omega
  · rw [hF.c 60 1 rfl] at h3; omega
  · rw [hF.c 61 1 rfl] at h3; omega
  · rw [hF.c 62 3 rfl] at h3; omega
  · rw [hF.c 63 1 rfl] at h3; omega
  · rw [hF.c 64 1 rfl] at h3; omega
  · rw [hF.c 65 1 rfl] at h3; omega
  · rw [hF.c 66 1 rfl] at h3; omega
  · rw [hF.c 67 1 rfl] at h3; omega
  · rw [hF.c 68 1 rfl] at h3; omega
  · rw [hF.c 69 1 rfl] at h3; omega
  · rw [hF.c 70 1 rfl] at h3; omega
theorem cl_ref (hF : Fix H) (h : R58 H) (hz : ∀ a, nx H ≤ a → 20 ≤ (kd H a).1 → False) : CL (Sr (nx H)) H := by
  intro a k ha hk
  rcases ha with rfl | ⟨h1, h2⟩ | h1
  · rw [h.1] at hk; omega
  · have e := fk58 hF h1 h2 hk
    subst e
    rcases h.2 k with q | q
    · exact Or.inl q
    · exact Or.inr (Or.inl q)
  · exact (hz a h1 hk).elim
/-- a call of the reference leaves the class's cells -/
theorem cwp_ref (hm : 118 ≤ m ∧ m < 173) (hF : Fix H) (h58 : R58 H) (hz : ∀ a, nx H ≤ a → 20 ≤ (kd H a).1 → False) (ha : RL (Sr (nx H)) as) (h : cwp d m as H Q) :
    cwp d m as H (fun r H' => Q r H' ∧ ∀ a, a < nx H → ¬ (58 ≤ a ∧ a ≤ 70) → gi H' a = gi H a) := by
  obtain ⟨r, H', hc, hq⟩ := h
  have hN := hF.1
  obtain ⟨-, hp⟩ := call_fr (S := Sr (nx H)) (n0 := nx H) (M := fun m => 118 ≤ m ∧ m < 173) (Or.inl rfl) (fun a h => Or.inr (Or.inr h))
    (fun m pc i len hm hC h1 => by
      have := all_range okM (m := m - 118) (by omega)
      rw [show 118 + (m - 118) = m by omega] at this
      exact okC_110 this hC h1)
    (fun m pc i len hm hC h1 => by
      have := all_range okM (m := m - 118) (by omega)
      rw [show 118 + (m - 118) = m by omega] at this
      have := okC_48 this hC h1
      omega) d m as H r H' hm hc
  obtain ⟨-, -, hf⟩ := hp ha (cl_ref hF h58 hz) (Nat.le_refl _)
  refine ⟨r, H', hc, hq, fun a h1 h2 => ?_⟩
  by_cases e : a = 0
  · subst e
    exact (hf 0 h1 (Or.inr (Or.inl h58.1))).1
  · refine (hf a h1 (Or.inl (fun z => ?_))).1
    rcases z with z | z | z
    · exact e z
    · exact h2 z
    · omega
/-- a call of the class leaves the reference's cells, and those of the script and of the constants -/
theorem cwp_cls (hm : m < 118) (hn : 71 ≤ nx H) (hc : CL Sc H) (ha : RL Sc as) (h : cwp d m as H Q) :
    cwp d m as H (fun r H' => Q r H' ∧ CL Sc H' ∧ (∀ a, 58 ≤ a → a ≤ 70 → gi H' a = gi H a ∧ gr H' a = gr H a) ∧ ∀ a, a < nx H → ZK (kd H a).1 → gi H' a = gi H a ∧ kd H' a = kd H a) := by
  obtain ⟨r, H', hcl, hq⟩ := h
  obtain ⟨-, hp⟩ := call_fr (S := Sc) (n0 := nx H) (M := fun m => m < 118) (by unfold Sc; omega) (fun a h => by unfold Sc; omega)
    (fun m pc i len hm hC h1 => (okC_110 (all_range okP hm) hC h1).2)
    (fun m pc i len hm hC h1 => by
      have := okC_48 (all_range okP hm) hC h1
      unfold Sc
      omega) d m as H r H' hm hcl
  obtain ⟨-, h2, hf⟩ := hp ha hc (Nat.le_refl _)
  refine ⟨r, H', hcl, hq, h2, fun a h1 h3 => ?_, fun a h1 h3 => ?_⟩
  · obtain ⟨q1, q2, -⟩ := hf a (by omega) (Or.inl (fun z => z ⟨h1, h3⟩))
    exact ⟨q1, q2⟩
  · obtain ⟨q1, -, q3⟩ := hf a h1 (Or.inr h3)
    exact ⟨q1, q3⟩
end FRMB
