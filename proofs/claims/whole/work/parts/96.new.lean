/-! the constructors: kinds and references are those of the final tables -/
def tK (a : Nat) : Nat × Nat := if a = 0 then (0, 0) else if a < 19 then (5, a - 2) else fKL.getD (a - 19) (0, 0)
def KN (L N a : Nat) : Nat × Nat := if a < N then (if a = 1 then (4, L) else tK a) else (0, 0)
/-- references in the order in which they are set -/
def WL : List (Nat × Nat × Nat) := [(20, 0, 21), (20, 1, 22), (19, 1, 20), (23, 0, 24), (23, 1, 25), (19, 2, 23), (19, 3, 26), (27, 0, 28), (27, 1, 29), (19, 4, 27),
  (30, 1, 31), (30, 2, 32), (30, 3, 33), (30, 4, 34), (30, 5, 35), (36, 0, 37), (36, 1, 38), (30, 6, 36), (30, 0, 27), (19, 5, 30), (19, 7, 39), (40, 0, 23),
  (41, 0, 42), (42, 0, 40), (26, 0, 41), (43, 0, 44), (44, 0, 40), (26, 1, 43), (45, 0, 46), (46, 0, 40), (26, 2, 45), (47, 0, 48), (48, 0, 40), (26, 3, 47), (49, 0, 50), (50, 0, 40), (26, 4, 49), (51, 0, 52), (52, 0, 40), (26, 5, 51),
  (54, 0, 55), (53, 1, 54), (56, 0, 57), (53, 2, 56), (53, 0, 26), (19, 6, 53), (58, 0, 59), (58, 1, 60), (58, 3, 61), (58, 4, 62), (58, 6, 63), (58, 7, 64), (58, 8, 65), (58, 14, 66), (58, 17, 67), (58, 18, 68), (58, 19, 69), (58, 20, 70)]
def RN (M a k : Nat) : Nat := (lk2 (WL.take M) a k).getD 0
def excB (a j : Nat) : Bool := a == 20 || a == 22 || a == 23 || a == 25 || a == 36 || a == 38 || (a == 19 && j == 0) || (a == 39 && j == 1) || (a == 40 && (j == 1 || j == 2 || j == 3)) || (a == 58 && (j == 10 || j == 5))
def CS (L : Nat) (s : Nat → Int32) (N S M : Nat) (F : List (Nat × Nat × Int32)) (H : AH) : Prop :=
  nx H = N ∧ su H = S ∧ (∀ a, kd H a = KN L N a) ∧ (∀ a k, gr H a k = RN M a k) ∧ gi H 1 = s ∧ (∀ a j, 19 ≤ a → excB a j = false → gi H a j = 0) ∧ ∀ f ∈ F, gi H f.1 f.2.1 = f.2.2
theorem lk2_no {l : List (Nat × Nat × Nat)} {a : Nat} (h : l.all (fun w => decide (w.1 ≠ a)) = true) (k : Nat) : lk2 l a k = none := by
  cases e : lk2 l a k with
  | none => rfl
  | some v =>
    have := List.all_eq_true.mp h _ (lk2_mem e)
    exact absurd rfl (of_decide_eq_true this)
theorem lk2_app (l : List (Nat × Nat × Nat)) (a k v b j : Nat) : (lk2 (l ++ [(a, k, v)]) b j).getD 0 = (match lk2 l b j with
    | some w => w
    | none => if a = b ∧ k = j then v else 0) := by
  induction l with
  | nil =>
    show (lk2 [(a, k, v)] b j).getD 0 = if a = b ∧ k = j then v else 0
    rw [lk2]
    split
    · rfl
    · rfl
  | cons t l ih =>
    obtain ⟨a', k', v'⟩ := t
    rw [List.cons_append, lk2, lk2]
    split
    · rfl
    · exact ih
theorem KN_lt {L N a : Nat} (h : a < N) (h1 : a ≠ 1) : KN L N a = tK a := by unfold KN; rw [if_pos h, if_neg h1]
section CSS
variable {d L N S M : Nat} {s : Nat → Int32} {F : List (Nat × Nat × Int32)} {H : AH} {Q : Option AV → AH → Prop} {x : Int32}
theorem CS.k (h : CS L s N S M F H) {a : Nat} {p : Nat × Nat} (ha : a < N) (h1 : 19 ≤ a) (e : tK a = p) : kd H a = p := by rw [h.2.2.1 a, KN_lt ha (by omega), e]
theorem CS.kc (h : CS L s N S M F H) {a c : Nat} (ha : a < N) (h1 : 19 ≤ a) (e : (tK a).1 = c) : (kd H a).1 = c := by rw [h.2.2.1 a, KN_lt ha (by omega)]; exact e
theorem CS.oal {c n w : Nat} (h : CS L s N S M F H) (e : tK N = (c, n)) (h19 : 19 ≤ N) (hw : (WL.take M).all (fun w => decide (w.1 ≠ N)) = true) (hf : F.all (fun f => decide (f.1 < N)) = true) : CS L s (N + 1) (S + w) M F (al H c n w) := by
  obtain ⟨h1, h2, h3, h4, h5, h6, h7⟩ := h
  refine ⟨by rw [nx_al, h1], by rw [su_al, h2], fun a => ?_, fun a k => ?_, ?_, fun a j ha he => ?_, fun f hf2 => ?_⟩
  · rw [kd_al, h1]
    by_cases q : a = N
    · subst q
      rw [if_pos rfl, KN_lt (by omega) (by omega), e]
    · rw [if_neg q, h3 a]
      unfold KN
      by_cases q2 : a < N
      · rw [if_pos q2, if_pos (show a < N + 1 by omega)]
      · rw [if_neg q2, if_neg (show ¬ a < N + 1 by omega)]
  · rw [gr_al, h1]
    by_cases q : a = N
    · subst q
      rw [if_pos rfl]
      unfold RN
      rw [lk2_no hw]
      rfl
    · rw [if_neg q, h4]
  · funext j
    rw [gi_al, if_neg (by omega), h5]
  · rw [gi_al]
    split
    · rfl
    · exact h6 a j ha he
  · have hlt := of_decide_eq_true (List.all_eq_true.mp hf f hf2)
    rw [gi_al, if_neg (by omega)]
    exact h7 f hf2
theorem CS.osr {a k v : Nat} (h : CS L s N S M F H) (e : WL[M]? = some (a, k, v)) (hn : lk2 (WL.take M) a k = none) : CS L s N S (M + 1) F (sr H a k v) := by
  obtain ⟨h1, h2, h3, h4, h5, h6, h7⟩ := h
  refine ⟨h1, h2, h3, fun b j => ?_, h5, h6, h7⟩
  rw [gr_sr]
  unfold RN
  rw [List.take_add_one, e]
  show _ = (lk2 (WL.take M ++ [(a, k, v)]) b j).getD 0
  rw [lk2_app]
  by_cases q : b = a ∧ j = k
  · obtain ⟨rfl, rfl⟩ := q
    rw [if_pos ⟨rfl, rfl⟩, hn]
    show v = if b = b ∧ j = j then v else 0
    rw [if_pos ⟨rfl, rfl⟩]
  · rw [if_neg q, h4]
    unfold RN
    cases lk2 (WL.take M) b j with
    | none =>
      show 0 = if a = b ∧ k = j then v else 0
      rw [if_neg (fun z => q ⟨z.1.symm, z.2.symm⟩)]
    | some w => rfl
theorem CS.osi {a k : Nat} {y : Int32} (h : CS L s N S M F H) (h19 : 19 ≤ a) (he : excB a k = true) (hf : F.all (fun f => decide (f.1 ≠ a ∨ f.2.1 ≠ k)) = true) : CS L s N S M ((a, k, y) :: F) (si H a k y) := by
  obtain ⟨h1, h2, h3, h4, h5, h6, h7⟩ := h
  refine ⟨h1, h2, h3, h4, ?_, fun b j hb hj => ?_, fun f hf2 => ?_⟩
  · funext j
    rw [gi_si, if_neg (fun z => by have := z.1; omega), h5]
  · rw [gi_si, if_neg (fun z => by rw [z.1, z.2, he] at hj; cases hj)]
    exact h6 b j hb hj
  · rcases List.mem_cons.mp hf2 with rfl | hm
    · rw [gi_si, if_pos ⟨rfl, rfl⟩]
    · have hne := of_decide_eq_true (List.all_eq_true.mp hf f hm)
      rw [gi_si, if_neg (fun z => hne.elim (fun w => w z.1) (fun w => w z.2))]
      exact h7 f hm
theorem k_text {t : Nat} (hd : 2 ≤ d) (h : CS L s (t + 1) S M F H) (h19 : 20 ≤ t) (e0 : tK t = (28, 0)) (e1 : tK (t + 1) = (2, 40)) (e2 : tK (t + 2) = (1, 42)) (w0 : WL[M]? = some (t, 0, t + 1)) (w1 : WL[M + 1]? = some (t, 1, t + 2)) (n0 : lk2 (WL.take M) t 0 = none) (n1 : lk2 (WL.take (M + 1)) t 1 = none)
    (z1 : (WL.take M).all (fun w => decide (w.1 ≠ t + 1)) = true) (z2 : (WL.take (M + 1)).all (fun w => decide (w.1 ≠ t + 2)) = true) (x0 : ∀ j, excB t j = true) (x2 : ∀ j, excB (t + 2) j = true) (hf : F.all (fun f => decide (f.1 < t)) = true) (hz : gi H t 2 = 0)
    (k : ∀ H', CS L s (t + 3) (S + 40 + 42) (M + 1 + 1) ((t, 2, 0) :: (t, 3, 1) :: (t + 2, 0, 0) :: (t + 2, 1, 1) :: F) H' → Q none H') : cwp d 64 [vR t] H Q := by
  have hf1 : F.all (fun f => decide (f.1 < t + 1)) = true := List.all_eq_true.mpr (fun f hm => decide_eq_true (by have := of_decide_eq_true (List.all_eq_true.mp hf f hm); omega))
  have hf2 : F.all (fun f => decide (f.1 < t + 1 + 1)) = true := List.all_eq_true.mpr (fun f hm => decide_eq_true (by have := of_decide_eq_true (List.all_eq_true.mp hf f hm); omega))
  have a1 : CS L s (t + 1 + 1) (S + 40) M F (al H 2 40 40) := h.oal e1 (by omega) z1 hf1
  have a2 := a1.osr w0 n0
  have a3 : CS L s (t + 1 + 1 + 1) (S + 40 + 42) (M + 1) F (al (sr (al H 2 40 40) t 0 (t + 1)) 1 42 42) := a2.oal e2 (by omega) z2 hf2
  have a4 := a3.osr w1 n1
  refine e_Text_new (by omega) (by rw [h.k (by omega) (by omega) e0]) (t_Text_new_0 (by omega) (by rw [a1.k (by omega) (by omega) e0]) ?_ ?_)
  · rw [h.1, a3.k (by omega) (by omega) e0]
  · rw [h.1]
    show cwp (d - 1) 79 [vR t] (sr (al (sr (al H 2 40 40) t 0 (t + 1)) 1 42 42) t 1 (t + 2)) _
    have a4' : CS L s (t + 1 + 1 + 1) (S + 40 + 42) (M + 1 + 1) F (sr (al (sr (al H 2 40 40) t 0 (t + 1)) 1 42 42) t 1 (t + 2)) := a4
    have g0 : gr (sr (al (sr (al H 2 40 40) t 0 (t + 1)) 1 42 42) t 1 (t + 2)) t 0 = t + 1 := by
      rw [gr_sr, if_neg (fun z => absurd z.2 (by decide)), gr_al, if_neg (by rw [nx_sr, nx_al, h.1]; omega), gr_sr, if_pos ⟨rfl, rfl⟩]
    have g1 : gr (sr (al (sr (al H 2 40 40) t 0 (t + 1)) 1 42 42) t 1 (t + 2)) t 1 = t + 2 := by rw [gr_sr, if_pos ⟨rfl, rfl⟩]
    have z0 : gi (sr (al (sr (al H 2 40 40) t 0 (t + 1)) 1 42 42) t 1 (t + 2)) (t + 2) 0 = 0 := by rw [gi_sr, gi_al, if_pos (by rw [nx_sr, nx_al, h.1])]
    have zc : gi (sr (al (sr (al H 2 40 40) t 0 (t + 1)) 1 42 42) t 1 (t + 2)) t 2 = gi H t 2 := by rw [gi_sr, gi_al, if_neg (by rw [nx_sr, nx_al, h.1]; omega), gi_sr, gi_al, if_neg (by rw [h.1]; omega)]
    generalize sr (al (sr (al H 2 40 40) t 0 (t + 1)) 1 42 42) t 1 (t + 2) = H3 at *
    rw [← wi_self H3]
    refine x_findLines (l := []) (by omega) ⟨by rw [a4'.k (by omega) (by omega) e0], by rw [g0, a4'.k (by omega) (by omega) e1], by rw [g1, a4'.k (by omega) (by omega) e2]⟩ (fun j hj => absurd hj (by simp)) (by simp) (by rw [zc, hz]; rfl) (fun j hj => absurd hj (by simp)) (by rw [g1]; exact z0) (fun g' hX hf' => t_Text_new_24 (k _ ?_))
    have hx2 := hX.2.2.1
    have hx3 := hX.2.2.2.1
    have hx0 := hX.s0
    have hx1 := hX.2.2.2.2.2.2
    rw [g1] at hx0 hx1
    have fr : ∀ a, a ≠ t → a ≠ t + 2 → g' a = gi H3 a := fun a q1 q2 => hf' a q1 (by rw [g1]; exact q2)
    obtain ⟨c1, c2, c3, c4, c5, c6, c7⟩ := a4'
    refine ⟨c1, c2, c3, c4, ?_, fun a j ha he => ?_, fun f hm => ?_⟩
    · show g' 1 = s
      rw [fr 1 (by omega) (by omega)]
      exact c5
    · show g' a j = 0
      rw [fr a (fun z => by rw [z, x0] at he; cases he) (fun z => by rw [z, x2] at he; cases he)]
      exact c6 a j ha he
    · rcases List.mem_cons.mp hm with rfl | hm
      · exact hx2
      rcases List.mem_cons.mp hm with rfl | hm
      · exact hx3
      rcases List.mem_cons.mp hm with rfl | hm
      · exact hx0
      rcases List.mem_cons.mp hm with rfl | hm
      · exact hx1
      have hlt := of_decide_eq_true (List.all_eq_true.mp hf f hm)
      show g' f.1 f.2.1 = f.2.2
      rw [fr f.1 (by omega) (by omega)]
      exact c7 f hm
theorem k_page {i : Nat} (hd : 1 ≤ d) (h : CS L s N S M F H) (hi : i < 6) (h41 : 41 ≤ N) (e0 : tK N = (24, 0)) (e1 : tK (N + 1) = (65, 25)) (w0 : WL[M]? = some (N, 0, N + 1)) (w1 : WL[M + 1]? = some (N + 1, 0, 40)) (w2 : WL[M + 1 + 1]? = some (26, i, N)) (n0 : lk2 (WL.take M) N 0 = none) (n1 : lk2 (WL.take (M + 1)) (N + 1) 0 = none) (n2 : lk2 (WL.take (M + 1 + 1)) 26 i = none)
    (z0 : (WL.take M).all (fun w => decide (w.1 ≠ N)) = true) (z1 : (WL.take M).all (fun w => decide (w.1 ≠ N + 1)) = true) (hr : RN M 19 3 = 26) (hf : F.all (fun f => decide (f.1 < 41)) = true)
    (k : ∀ H', CS L s (N + 2) (S + 2 + 25) (M + 1 + 1 + 1) F H' → wp d sc_P_new 102 [vR 19, vI x, vR 40, vI (nI (i + 1))] [] H' Q) : wp d sc_P_new 102 [vR 19, vI x, vR 40, vI (nI i)] [] H Q := by
  have q6 : ¬ (6 : Int32) ≤ nI i := by rw [show (6 : Int32) = nI 6 from rfl]; exact nI_ge hi (by decide)
  have hfN : ∀ m, 41 ≤ m → F.all (fun f => decide (f.1 < m)) = true := fun m hm => List.all_eq_true.mpr (fun f hfm => decide_eq_true (by have := of_decide_eq_true (List.all_eq_true.mp hf f hfm); omega))
  refine t_P_new_102 (fun z => absurd z q6) (fun _ => h.kc (a := 19) (by omega) (by decide) rfl) (fun z => absurd z q6) (fun _ => ?_)
  have h1 : CS L s (N + 1) (S + 2) M F (al H 24 0 2) := h.oal e0 (by omega) z0 (hfN N h41)
  rw [h.1, show gr H 19 3 = 26 by rw [h.2.2.2.1]; exact hr]
  generalize al H 24 0 2 = H1 at h1 ⊢
  have h2 : CS L s (N + 1 + 1) (S + 2 + 25) M F (al H1 65 25 25) := h1.oal e1 (by omega) z1 (hfN (N + 1) (by omega))
  have h3 := h2.osr w0 n0
  have gN : gr (sr (al H1 65 25 25) N 0 (N + 1)) N 0 = N + 1 := by rw [gr_sr, if_pos ⟨rfl, rfl⟩]
  refine e_Page_new (by omega) (by rw [h1.k (by omega) (by omega) e0]) (t_Page_new_0 (by omega) (by rw [h2.k (by omega) (by omega) e0]) ?_ ?_ (h2.kc (a := 40) (by omega) (by decide) rfl) ?_)
  · rw [h1.1, gN, h2.k (by omega) (by omega) e1]
  · rw [h1.1, gN, h2.k (by omega) (by omega) e1]
    exact vp_in_nI (n := 0) (by decide) (by decide)
  · rw [h1.1, gN]
    have h4 := h3.osr w1 n1
    generalize sr (sr (al H1 65 25 25) N 0 (N + 1)) (N + 1) 0 40 = H4 at h4 ⊢
    refine t_P_new_121 (h4.kc (a := 26) (by omega) (by decide) rfl) (by rw [h4.k (a := 26) (p := (64, 6)) (by omega) (by decide) rfl]; exact vp_in_nI hi (by decide)) (by rw [h4.k (by omega) (by omega) e0]) ?_
    rw [nI_clamp (by omega), nI_1]
    exact k _ (h4.osr w2 n2)
end CSS
