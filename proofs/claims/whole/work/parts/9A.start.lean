/-! the law from its start -/
theorem nth_getD {α : Type} {z : α} : ∀ {l : List α} {k : Nat} {v : α}, sm_nth l k = some v → l.getD k z = v := by
  intro l
  induction l with
  | nil => intro k v h; cases h
  | cons x xs ih =>
    intro k v h
    cases k with
    | zero => cases h; rfl
    | succ k => exact ih (k := k) h
def H0 (L : Nat) (s : Nat → Int32) : AH := ((19, 0), KN L 19, fun a j => if a = 1 then s j else 0, fun _ _ => 0)
def x0 (L : Nat) (s : Nat → Int32) : Int32 := if L = 0 then 0 else s 0
section STA
variable {d L N S M : Nat} {s : Nat → Int32} {F : List (Nat × Nat × Int32)} {H : AH} {Q : Option AV → AH → Prop} {c : Int32} {K : Nat}
theorem cs_0 : CS L s 19 0 0 [] (H0 L s) := by
  refine ⟨rfl, rfl, fun _ => rfl, fun _ _ => rfl, ?_, fun a j ha _ => ?_, fun f hf => by cases hf⟩
  · funext j
    show (if 1 = 1 then s j else 0) = s j
    rw [if_pos rfl]
  · show (if a = 1 then s j else 0) = 0
    rw [if_neg (by omega)]
theorem CS.k1 (h : CS L s N S M F H) (hN : 19 ≤ N) : kd H 1 = (4, L) := by rw [h.2.2.1 1]; unfold KN; rw [if_pos (by omega), if_pos rfl]
theorem k_cell (hd : 1 ≤ d) (hL : L < 2 ^ 31) (h : CS L s N S M F H) (hN : 19 ≤ N) (k : Q (some (vI (x0 L s))) H) : cwp d 173 [vR 1, vI 0] H Q := by
  have h1 := h.k1 hN
  have e : Int32.ofNat (kd H 1).2 ≤ 0 ↔ L = 0 := by
    rw [h1]
    show nI L ≤ 0 ↔ L = 0
    rw [show (0 : Int32) = nI 0 from rfl, nI_leI hL (by decide)]
    omega
  unfold x0 at k
  refine e_Law_cell hd (t_Law_cell_0 (by rw [h1]) (fun q => ?_) (fun q => ?_) (fun q => ?_))
  · rw [e] at q
    rw [h1]
    exact vp_in_nI (n := 0) (by show 0 < L; omega) hL
  · rw [e] at q
    rw [if_pos q] at k
    exact k
  · rw [e] at q
    rw [if_neg q, ← h.2.2.2.2.1] at k
    exact k
theorem WL_ref : ∀ t ∈ fRL, RN 58 t.1 t.2.1 = t.2.2 := by decide +kernel
theorem WL_58 : ∀ t ∈ WL, (t.1 = 58 → 58 ≤ t.2.2 ∧ t.2.2 ≤ 70) ∧ (¬ (58 ≤ t.1 ∧ t.1 ≤ 70) → ¬ (58 ≤ t.2.2 ∧ t.2.2 ≤ 70)) := by decide +kernel
theorem WL_pg : ∀ p : Fin 6, RN 58 26 p.val = 41 + 2 * p.val ∧ RN 58 (42 + 2 * p.val) 0 = 40 ∧ excB (41 + 2 * p.val) 1 = false := by decide +kernel
theorem RN_c {a k : Nat} : RN 58 a k = 0 ∨ (a, k, RN 58 a k) ∈ WL := by
  unfold RN
  have e : WL.take 58 = WL := rfl
  rw [e]
  cases h : lk2 WL a k with
  | none => exact Or.inl rfl
  | some v => exact Or.inr (lk2_mem h)
theorem TX_0 {g : Nat → Nat → Int32} {t : Nat} (h1 : gr H t 1 = t + 2) (e2 : g t 2 = 0) (e3 : g t 3 = 1) (e4 : g (t + 2) 0 = 0) (e5 : g (t + 2) 1 = 1) : TX H g t [] := by
  have n1 : nLn [] = 1 := by decide
  have s0 : sLn [] 0 = 0 := by decide
  refine ⟨fun j hj => absurd hj (by simp), by simp, e2, by rw [n1]; exact e3, fun j hj => absurd hj (by simp), fun i hi => ?_, by rw [h1, n1]; exact e5⟩
  rw [n1] at hi
  have : i = 0 := by omega
  subst this
  rw [h1, s0]
  exact e4
theorem li_0 (hK : 1 ≤ K ∧ K ≤ 5) (hc : c = nI K) (h : CS L s 71 S 58 (FZ2 c) H) : LI L H (K, [], [], -1, 0, false, false, 0, (0, false, []), []) := by
  have h1 := h.k1 (by decide)
  obtain ⟨hn, hs, hk, hr, hg, hz, hf⟩ := h
  have hF : Fix H := by
    refine ⟨by omega, fun a p e => ?_, fun a k v e => ?_⟩
    · have ha := fx_lt e
      unfold fKA at e
      split at e
      · cases e
      · rename_i q
        rw [hk a, KN_lt (by omega) (by omega)]
        unfold tK
        rw [if_neg (by omega), if_neg q]
        exact nth_getD e
    · rw [hr]
      exact WL_ref _ (lk2_mem e)
  have fF : ∀ a j v, (a, j, v) ∈ FZ2 c → gi H a j = v := fun a j v hm => hf _ hm
  have mem : ∀ {x : Nat × Nat × Int32} {i : Nat}, (FZ2 c)[i]? = some x → x ∈ FZ2 c := fun e => List.mem_of_getElem? e
  have T : ∀ t, lk2 fRL t 1 = some (t + 2) → (t, 2, 0) ∈ FZ2 c → (t, 3, 1) ∈ FZ2 c → (t + 2, 0, 0) ∈ FZ2 c → (t + 2, 1, 1) ∈ FZ2 c → TX H (gi H) t [] := fun t e0 e1 e2 e3 e4 => TX_0 (hF.r t 1 _ e0) (fF _ _ _ e1) (fF _ _ _ e2) (fF _ _ _ e3) (fF _ _ _ e4)
  have z : ∀ a j, 19 ≤ a → excB a j = false → gi H a j = 0 := hz
  refine ⟨⟨hF, T 20 rfl (mem (i := 15) rfl) (mem (i := 16) rfl) (mem (i := 17) rfl) (mem (i := 18) rfl), ⟨[], T 36 rfl (mem (i := 7) rfl) (mem (i := 8) rfl) (mem (i := 9) rfl) (mem (i := 10) rfl)⟩, hK, ?_, T 23 rfl (mem (i := 11) rfl) (mem (i := 12) rfl) (mem (i := 13) rfl) (mem (i := 14) rfl), ⟨fF 40 1 1 (mem (i := 4) rfl), fF 40 2 0 (mem (i := 3) rfl), fF 40 3 0 (mem (i := 2) rfl)⟩, ⟨by decide, z 19 8 (by decide) rfl, (fun r hr => by cases hr), fun p hp => ?_⟩, ⟨z 39 0 (by decide) rfl, fF 39 1 (-1) (mem (i := 6) rfl), Or.inl rfl, z 39 2 (by decide) rfl⟩, fun q => (by cases q), by decide, fun j hj => absurd hj (by simp), z 56 1 (by decide) rfl, fun j hj => absurd hj (by simp)⟩, ⟨hK, ?_, ⟨z 60 24 (by decide) rfl, by decide, fun j hj => absurd hj (by simp)⟩, ⟨by decide, z 58 2 (by decide) rfl, (fun i r e => by cases e)⟩, fF 58 10 (-1) (mem (i := 1) rfl), z 58 13 (by decide) rfl, z 58 9 (by decide) rfl, fun q => (by cases q), by decide, z 58 21 (by decide) rfl, fun j hj => absurd hj (by simp)⟩, ⟨by rw [hk 0]; rfl, fun k => ?_⟩, fun a k ha _ => ?_, fun j hj => ?_, fun a ha hb => ?_, h1⟩
  · exact (fF 19 0 c (mem (i := 5) rfl)).trans hc
  · obtain ⟨w1, w2, w3⟩ := WL_pg ⟨p, hp⟩
    exact ⟨z _ 1 (by omega) w3, ⟨by rw [hr]; exact w1, by rw [hr]; exact w2⟩, fun n e hn he => by simp [pg] at he⟩
  · exact (fF 58 5 c (mem (i := 0) rfl)).trans hc
  · rw [hr]
    rcases RN_c (a := 58) (k := k) with q | q
    · exact Or.inl q
    · exact Or.inr ((WL_58 _ q).1 rfl)
  · rw [hr]
    rcases RN_c (a := a) (k := k) with q | q
    · rw [q]
      unfold Sc
      omega
    · exact (WL_58 _ q).2 ha
  · rw [hk, KN_lt (by omega) (by omega)]
    unfold tK
    rw [if_neg (by omega), if_pos (by omega), show 2 + j - 2 = j by omega]
  · rw [hk] at hb
    unfold KN at hb
    rw [if_neg (by omega)] at hb
    exact absurd hb (by decide)
theorem law_wp (hd : 16 ≤ d) (hL : L < 2 ^ 30) (k : ∀ H', nx H' ≤ 71 + 4 * (L / 3) → su H' ≤ 5944 + 90 * (L / 3) → Q (some (vI 1)) H') : wp d sc_Law_law 0 [vR 1, vU, vU, vU] [] (H0 L s) Q := by
  refine t_Law_law_0 ?_
  have h1 : CS L s 20 11 0 [] (al (H0 L s) 30 0 11) := cs_0.oal rfl (by decide) rfl rfl
  show cwp d 173 [vR 1, vI 0] (al (H0 L s) 30 0 11) (fun r1 H1 => wp d sc_Law_law 9 [vR 1, vU, vU, vU] (r1.toList ++ [vR 19, vR 19]) H1 Q)
  generalize al (H0 L s) 30 0 11 = H1 at h1 ⊢
  refine k_cell (by omega) (by omega) h1 (by decide) (t_Law_law_9 (k_Pnew (by omega) h1 (fun H2 h2 => t_Law_law_12 ?_)))
  have h3 : CS L s 59 2625 46 (FZ1 (kZ (x0 L s))) (al H2 31 0 22) := h2.oal rfl (by decide) rfl rfl
  rw [h2.1]
  generalize al H2 31 0 22 = H3 at h3 ⊢
  refine k_cell (by omega) (by omega) h3 (by decide) (t_Law_law_22 (k_Mnew (by omega) h3 (fun H4 h4 => t_Law_law_25 ?_)))
  obtain ⟨K, hK, eK⟩ := kZ_n (x0 L s)
  have h4 : CS L s 71 5944 58 (FZ2 (kZ (x0 L s))) H4 := h4
  have hl := law_loop (Q := Q) hd hL k (L / 3 + 1) 0 H4 _ (by omega) (Or.inl rfl) (li_0 hK eK h4) (by have := h4.1; omega) (by have := h4.2.1; omega)
  exact hl
end STA
