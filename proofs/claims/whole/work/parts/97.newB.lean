/-! the constructors of the class and of the reference -/
def kZ (x : Int32) : Int32 := if (1 : Int32) < (if x < 5 then x else 5) then (if x < 5 then x else 5) else 1
theorem kZ_m1 {x : Int32} (h1 : 1 ≤ x) (h5 : x ≤ 5) : kZ x = x := by
  unfold kZ
  by_cases q : x < 5
  · rw [if_pos q]
    by_cases q2 : 1 < x
    · rw [if_pos q2]
    · rw [if_neg q2]
      exact Int32.le_antisymm h1 (Int32.not_lt.mp q2)
  · rw [if_neg q, if_pos (by decide)]
    exact (Int32.le_antisymm h5 (Int32.not_lt.mp q)).symm
theorem kZ_m2 {x : Int32} (h5 : ¬ x ≤ 5) : kZ x = 5 := by
  unfold kZ
  rw [if_neg (fun z => h5 (Int32.le_of_lt z)), if_pos (by decide)]
theorem kZ_m3 {x : Int32} (h1 : ¬ 1 ≤ x) : kZ x = 1 := by
  have h2 := Int32.not_le.mp h1
  unfold kZ
  rw [if_pos (Int32.lt_trans h2 (by decide)), if_neg (fun z => h1 (Int32.le_of_lt z))]
theorem kZ_n (x : Int32) : ∃ K : Nat, (1 ≤ K ∧ K ≤ 5) ∧ kZ x = nI K := by
  by_cases h1 : 1 ≤ x
  · by_cases h5 : x ≤ 5
    · obtain ⟨n, n1, n2, rfl⟩ := nI_lt1 h1
      rw [kZ_m1 h1 h5]
      rw [show (5 : Int32) = nI 5 from rfl, nI_leI n2 (by decide)] at h5
      exact ⟨n, ⟨n1, h5⟩, rfl⟩
    · exact ⟨5, by decide, kZ_m2 h5⟩
  · exact ⟨1, by decide, kZ_m3 h1⟩
def FZ1 (c : Int32) : List (Nat × Nat × Int32) := [(40, 3, 0), (40, 2, 0), (40, 1, 1), (19, 0, c), (39, 1, -1), (36, 2, 0), (36, 3, 1), (38, 0, 0), (38, 1, 1), (23, 2, 0), (23, 3, 1), (25, 0, 0), (25, 1, 1), (20, 2, 0), (20, 3, 1), (22, 0, 0), (22, 1, 1)]
def FZ2 (c : Int32) : List (Nat × Nat × Int32) := (58, 5, c) :: (58, 10, -1) :: FZ1 c
section CSP
variable {d L S : Nat} {s : Nat → Int32} {H : AH} {Q : Option AV → AH → Prop} {x : Int32}
theorem k_Pnew (hd : 6 ≤ d) (h : CS L s 20 S 0 [] H) (k : ∀ H', CS L s 58 (S + 2592) 46 (FZ1 (kZ x)) H' → Q none H') : cwp d 89 [vR 19, vI x] H Q := by
  refine e_P_new (by omega) (h.kc (a := 19) (by decide) (by decide) rfl) (t_P_new_0 (by decide) ?_)
  rw [h.1]
  have h1 : CS L s 21 (S + 4) 0 [] (al H 28 0 4) := h.oal rfl (by decide) rfl rfl
  have z1 : gi (al H 28 0 4) 20 2 = 0 := by rw [gi_al, if_pos h.1.symm]
  generalize al H 28 0 4 = H1 at h1 z1 ⊢
  refine k_text (t := 20) (by omega) h1 (by decide) rfl rfl rfl rfl rfl rfl rfl rfl rfl (fun _ => rfl) (fun _ => rfl) rfl z1 (fun H2 h2 => t_P_new_12 (h2.kc (a := 19) (by decide) (by decide) rfl) ?_)
  clear h h1 z1
  rw [h2.1]
  have h3 : CS L s 24 (S + 90) 3 _ (al (sr H2 19 1 20) 28 0 4) := (h2.osr rfl rfl).oal rfl (by decide) rfl rfl
  have z3 : gi (al (sr H2 19 1 20) 28 0 4) 23 2 = 0 := by rw [gi_al, if_pos (by rw [nx_sr, h2.1])]
  generalize al (sr H2 19 1 20) 28 0 4 = H3 at h3 z3 ⊢
  refine k_text (t := 23) (by omega) h3 (by decide) rfl rfl rfl rfl rfl rfl rfl rfl rfl (fun _ => rfl) (fun _ => rfl) rfl z3 (fun H4 h4 => ?_)
  clear h2 h3 z3
  have h5 : CS L s 27 (S + 178) 6 _ (al (sr H4 19 2 23) 64 6 6) := (h4.osr rfl rfl).oal rfl (by decide) rfl rfl
  have h6 : CS L s 28 (S + 180) 7 _ (al (sr (al (sr H4 19 2 23) 64 6 6) 19 3 26) 22 0 2) := (h5.osr rfl rfl).oal rfl (by decide) rfl rfl
  refine t_P_new_23 (h4.kc (a := 19) (by decide) (by decide) rfl) (h5.kc (a := 19) (by decide) (by decide) rfl) ?_
  rw [h4.1]
  generalize al (sr (al (sr H4 19 2 23) 64 6 6) 19 3 26) 22 0 2 = H6 at h6 ⊢
  clear h4 h5
  have h7 : CS L s 29 (S + 1944) 7 _ (al H6 1 1764 1764) := h6.oal rfl (by decide) rfl rfl
  have h8 : CS L s 30 (S + 1985) 8 _ (al (sr (al H6 1 1764 1764) 27 0 28) 1 41 41) := (h7.osr rfl rfl).oal rfl (by decide) rfl rfl
  have h9 : CS L s 30 (S + 1985) 9 _ (sr (al (sr (al H6 1 1764 1764) 27 0 28) 1 41 41) 27 1 29) := h8.osr rfl rfl
  refine e_Matcher_new (a0 := 27) (by omega) (h6.kc (a := 27) (by decide) (by decide) rfl) (t_Matcher_new_0 (by decide) (h7.kc (a := 27) (by decide) (by decide) rfl) (by rw [h6.1]; exact h8.kc (a := 27) (by decide) (by decide) rfl) ?_)
  rw [h6.1]
  generalize sr (al (sr (al H6 1 1764 1764) 27 0 28) 1 41 41) 27 1 29 = H9 at h9 ⊢
  clear h6 h7 h8
  have h10 : CS L s 31 (S + 1994) 10 _ (al (sr H9 19 4 27) 23 0 9) := (h9.osr rfl rfl).oal rfl (by decide) rfl rfl
  refine t_P_new_43 (b0 := 27) (h9.kc (a := 19) (by decide) (by decide) rfl) (h10.kc (a := 19) (by decide) (by decide) rfl) ?_
  rw [h9.1, show gr (al (sr H9 19 4 27) 23 0 9) 19 4 = 27 by rw [h10.2.2.2.1]; rfl]
  generalize al (sr H9 19 4 27) 23 0 9 = H10 at h10 ⊢
  clear h9
  have h11 : CS L s 32 (S + 2035) 10 _ (al H10 1 41 41) := h10.oal rfl (by decide) rfl rfl
  have h12 : CS L s 33 (S + 2076) 11 _ (al (sr (al H10 1 41 41) 30 1 31) 1 41 41) := (h11.osr rfl rfl).oal rfl (by decide) rfl rfl
  have h13 : CS L s 34 (S + 2079) 12 _ (al (sr (al (sr (al H10 1 41 41) 30 1 31) 1 41 41) 30 2 32) 27 0 3) := (h12.osr rfl rfl).oal rfl (by decide) rfl rfl
  refine e_Merger_new (by omega) (h10.kc (a := 30) (by decide) (by decide) rfl) (t_Merger_new_0 (by decide) (h11.kc (a := 30) (by decide) (by decide) rfl) (by rw [h10.1]; exact h12.kc (a := 30) (by decide) (by decide) rfl) ?_)
  rw [h10.1]
  show cwp (d - 1 - 1) 58 [vR 33] (al (sr (al (sr (al H10 1 41 41) 30 1 31) 1 41 41) 30 2 32) 27 0 3) _
  generalize al (sr (al (sr (al H10 1 41 41) 30 1 31) 1 41 41) 30 2 32) 27 0 3 = H13 at h13 ⊢
  clear h10 h11 h12
  refine e_Span_new (by omega) (h13.kc (a := 33) (by decide) (by decide) rfl) (t_Span_new_0 (by decide) (t_Merger_new_28 (b0 := 33) (h13.kc (a := 30) (by decide) (by decide) rfl) ?_))
  have h14 : CS L s 35 (S + 2082) 13 _ (al (sr H13 30 3 33) 27 0 3) := (h13.osr rfl rfl).oal rfl (by decide) rfl rfl
  rw [h13.1]
  generalize al (sr H13 30 3 33) 27 0 3 = H14 at h14 ⊢
  clear h13
  refine e_Span_new (by omega) (h14.kc (a := 34) (by decide) (by decide) rfl) (t_Span_new_0 (by decide) (t_Merger_new_39 (h14.kc (a := 30) (by decide) (by decide) rfl) ?_))
  have h15 : CS L s 36 (S + 2085) 14 _ (al (sr H14 30 4 34) 27 0 3) := (h14.osr rfl rfl).oal rfl (by decide) rfl rfl
  rw [h14.1]
  generalize al (sr H14 30 4 34) 27 0 3 = H15 at h15 ⊢
  clear h14
  refine e_Span_new (by omega) (h15.kc (a := 35) (by decide) (by decide) rfl) (t_Span_new_0 (by decide) (t_Merger_new_50 (h15.kc (a := 30) (by decide) (by decide) rfl) ?_))
  have h16 : CS L s 37 (S + 2089) 15 _ (al (sr H15 30 5 35) 28 0 4) := (h15.osr rfl rfl).oal rfl (by decide) rfl rfl
  rw [h15.1]
  have z16 : gi (al (sr H15 30 5 35) 28 0 4) 36 2 = 0 := by rw [gi_al, if_pos (by rw [nx_sr, h15.1])]
  generalize al (sr H15 30 5 35) 28 0 4 = H16 at h16 z16 ⊢
  clear h15
  refine k_text (t := 36) (by omega) h16 (by decide) rfl rfl rfl rfl rfl rfl rfl rfl rfl (fun _ => rfl) (fun _ => rfl) rfl z16 (fun H17 h17 => t_Merger_new_61 (h17.kc (a := 30) (by decide) (by decide) rfl) (h17.kc (a := 30) (by decide) (by decide) rfl) ?_)
  clear h16 z16
  have h18 : CS L s 39 (S + 2171) 19 _ (sr (sr H17 30 6 36) 30 0 27) := (h17.osr rfl rfl).osr rfl rfl
  generalize sr (sr H17 30 6 36) 30 0 27 = H18 at h18 ⊢
  clear h17
  refine t_P_new_58 (h18.kc (a := 19) (by decide) (by decide) rfl) ?_
  have h19 : CS L s 40 (S + 2176) 20 _ (al (sr H18 19 5 30) 20 0 5) := (h18.osr rfl rfl).oal rfl (by decide) rfl rfl
  rw [h18.1]
  generalize al (sr H18 19 5 30) 20 0 5 = H19 at h19 ⊢
  clear h18
  refine e_Journal_new (by omega) (h19.kc (a := 39) (by decide) (by decide) rfl) (t_Journal_new_0 (by decide) (h19.kc (a := 39) (by decide) (by decide) rfl) ?_)
  have h20 : CS L s 40 (S + 2176) 20 _ (si H19 39 1 (-1)) := h19.osi (by decide) rfl rfl
  generalize si H19 39 1 (-1) = H20 at h20 ⊢
  clear h19
  have h21 : CS L s 41 (S + 2180) 21 _ (al (si (sr H20 19 7 39) 19 0 (kZ x)) 25 0 4) := ((h20.osr rfl rfl).osi (by decide) rfl rfl).oal rfl (by decide) rfl rfl
  refine t_P_new_69 (h20.kc (a := 19) (by decide) (by decide) rfl) (h20.kc (a := 19) (by decide) (by decide) rfl) (by show (kd (al (si (sr H20 19 7 39) 19 0 (kZ x)) 25 0 4) 19).1 = 30; exact h21.kc (a := 19) (by decide) (by decide) rfl) ?_
  show cwp (d - 1) 42 [vR (nx H20), vR (gr (al (si (sr H20 19 7 39) 19 0 (kZ x)) 25 0 4) 19 2), vI 1, vI 0, vI 0] (al (si (sr H20 19 7 39) 19 0 (kZ x)) 25 0 4) (fun r1 H1 => wp (d - 1) sc_P_new 99 [vR 19, vI x, vU, vU] (r1.toList ++ [vR (nx H20)]) H1 Q)
  rw [h20.1, show gr (al (si (sr H20 19 7 39) 19 0 (kZ x)) 25 0 4) 19 2 = 23 by rw [h21.2.2.2.1]; rfl]
  generalize al (si (sr H20 19 7 39) 19 0 (kZ x)) 25 0 4 = H21 at h21 ⊢
  clear h20
  refine e_Revision_new (by omega) (h21.kc (a := 40) (by decide) (by decide) rfl) (t_Revision_new_0 (by decide) (h21.kc (a := 40) (by decide) (by decide) rfl) (Or.inr rfl) (t_P_new_99 ?_))
  have h22 : CS L s 41 (S + 2180) 22 _ (si (si (si (sr H21 40 0 23) 40 1 1) 40 2 0) 40 3 0) := (((h21.osr rfl rfl).osi (by decide) rfl rfl).osi (by decide) rfl rfl).osi (by decide) rfl rfl
  generalize si (si (si (sr H21 40 0 23) 40 1 1) 40 2 0) 40 3 0 = H22 at h22 ⊢
  clear h21
  have h22 : CS L s 41 (S + 2180) 22 (FZ1 (kZ x)) H22 := h22
  refine k_page (i := 0) (by omega) h22 (by decide) (by decide) rfl rfl rfl rfl rfl rfl rfl rfl rfl rfl rfl rfl (fun H23 h23 => ?_)
  refine k_page (i := 1) (by omega) h23 (by decide) (by decide) rfl rfl rfl rfl rfl rfl rfl rfl rfl rfl rfl rfl (fun H24 h24 => ?_)
  refine k_page (i := 2) (by omega) h24 (by decide) (by decide) rfl rfl rfl rfl rfl rfl rfl rfl rfl rfl rfl rfl (fun H25 h25 => ?_)
  refine k_page (i := 3) (by omega) h25 (by decide) (by decide) rfl rfl rfl rfl rfl rfl rfl rfl rfl rfl rfl rfl (fun H26 h26 => ?_)
  refine k_page (i := 4) (by omega) h26 (by decide) (by decide) rfl rfl rfl rfl rfl rfl rfl rfl rfl rfl rfl rfl (fun H27 h27 => ?_)
  refine k_page (i := 5) (by omega) h27 (by decide) (by decide) rfl rfl rfl rfl rfl rfl rfl rfl rfl rfl rfl rfl (fun H28 h28 => ?_)
  have h28 : CS L s 53 (S + 2342) 40 (FZ1 (kZ x)) H28 := h28
  clear h22 h23 h24 h25 h26 h27
  have h29 : CS L s 54 (S + 2346) 40 (FZ1 (kZ x)) (al H28 29 0 4) := h28.oal rfl (by decide) rfl rfl
  refine t_P_new_102 (fun _ => h29.kc (a := 19) (by decide) (by decide) rfl) (fun z => absurd (by decide) z) (fun _ => ?_) (fun z => absurd (by decide) z)
  rw [h28.1, show gr (al H28 29 0 4) 19 3 = 26 by rw [h29.2.2.2.1]; rfl]
  generalize al H28 29 0 4 = H29 at h29 ⊢
  clear h28
  have h30 : CS L s 55 (S + 2348) 40 (FZ1 (kZ x)) (al H29 21 0 2) := h29.oal rfl (by decide) rfl rfl
  refine e_Viewer_new (by omega) (h29.kc (a := 53) (by decide) (by decide) rfl) (t_Viewer_new_0 (by decide) ?_)
  rw [h29.1]
  generalize al H29 21 0 2 = H30 at h30 ⊢
  clear h29
  have h31 : CS L s 56 (S + 2388) 40 (FZ1 (kZ x)) (al H30 2 40 40) := h30.oal rfl (by decide) rfl rfl
  refine e_Line_new (by omega) (h30.kc (a := 54) (by decide) (by decide) rfl) (t_Line_new_0 (by decide) (h31.kc (a := 54) (by decide) (by decide) rfl) ?_)
  rw [h30.1]
  have h32 : CS L s 56 (S + 2388) 41 (FZ1 (kZ x)) (sr (al H30 2 40 40) 54 0 55) := h31.osr rfl rfl
  generalize sr (al H30 2 40 40) 54 0 55 = H32 at h32 ⊢
  clear h30 h31
  have h33 : CS L s 57 (S + 2392) 42 (FZ1 (kZ x)) (al (sr H32 53 1 54) 26 0 4) := (h32.osr rfl rfl).oal rfl (by decide) rfl rfl
  refine t_Viewer_new_12 (h32.kc (a := 53) (by decide) (by decide) rfl) ?_
  rw [h32.1]
  generalize al (sr H32 53 1 54) 26 0 4 = H33 at h33 ⊢
  clear h32
  have h34 : CS L s 58 (S + 2592) 42 (FZ1 (kZ x)) (al H33 2 200 200) := h33.oal rfl (by decide) rfl rfl
  refine e_Screen_new (by omega) (h33.kc (a := 56) (by decide) (by decide) rfl) (t_Screen_new_0 (by decide) (h34.kc (a := 56) (by decide) (by decide) rfl) ?_)
  rw [h33.1]
  have h35 : CS L s 58 (S + 2592) 43 (FZ1 (kZ x)) (sr (al H33 2 200 200) 56 0 57) := h34.osr rfl rfl
  generalize sr (al H33 2 200 200) 56 0 57 = H35 at h35 ⊢
  clear h33 h34
  have h36 : CS L s 58 (S + 2592) 45 (FZ1 (kZ x)) (sr (sr H35 53 2 56) 53 0 26) := (h35.osr rfl rfl).osr rfl rfl
  refine t_Viewer_new_23 (h35.kc (a := 53) (by decide) (by decide) rfl) (h35.kc (a := 53) (by decide) (by decide) rfl) ?_
  generalize sr (sr H35 53 2 56) 53 0 26 = H36 at h36 ⊢
  clear h35
  exact t_P_new_140 (h36.kc (a := 19) (by decide) (by decide) rfl) (k _ (h36.osr rfl rfl))
theorem k_Mnew {c : Int32} (hd : 1 ≤ d) (h : CS L s 59 S 46 (FZ1 c) H) (k : ∀ H', CS L s 71 (S + 3319) 58 ((58, 5, kZ x) :: (58, 10, -1) :: FZ1 c) H' → Q none H') : cwp d 118 [vR 58, vI x] H Q := by
  have h1 : CS L s 60 (S + 1140) 46 (FZ1 c) (al H 1 1140 1140) := h.oal rfl (by decide) rfl rfl
  have h2 : CS L s 61 (S + 1167) 47 (FZ1 c) (al (sr (al H 1 1140 1140) 58 0 59) 1 27 27) := (h1.osr rfl rfl).oal rfl (by decide) rfl rfl
  have h3 : CS L s 62 (S + 1193) 48 (FZ1 c) (al (sr (al (sr (al H 1 1140 1140) 58 0 59) 1 27 27) 58 1 60) 1 26 26) := (h2.osr rfl rfl).oal rfl (by decide) rfl rfl
  have h4 : CS L s 63 (S + 1219) 49 (FZ1 c) (al (sr (al (sr (al (sr (al H 1 1140 1140) 58 0 59) 1 27 27) 58 1 60) 1 26 26) 58 3 61) 3 26 26) := (h3.osr rfl rfl).oal rfl (by decide) rfl rfl
  have h5 : CS L s 63 (S + 1219) 50 (FZ1 c) (sr (al (sr (al (sr (al (sr (al H 1 1140 1140) 58 0 59) 1 27 27) 58 1 60) 1 26 26) 58 3 61) 3 26 26) 58 4 62) := h4.osr rfl rfl
  refine e_Model_new (by omega) (h.kc (a := 58) (by decide) (by decide) rfl) (t_Model_new_0 (by decide) (h1.kc (a := 58) (by decide) (by decide) rfl) (by rw [h.1]; exact h2.kc (a := 58) (by decide) (by decide) rfl) (by rw [h.1]; exact h3.kc (a := 58) (by decide) (by decide) rfl) (by rw [h.1]; exact h4.kc (a := 58) (by decide) (by decide) rfl) ?_)
  rw [h.1]
  show wp (d - 1) sc_Model_new 37 [vR 58, vI x] [] (sr (al (sr (al (sr (al (sr (al H 1 1140 1140) 58 0 59) 1 27 27) 58 1 60) 1 26 26) 58 3 61) 3 26 26) 58 4 62) Q
  generalize sr (al (sr (al (sr (al (sr (al H 1 1140 1140) 58 0 59) 1 27 27) 58 1 60) 1 26 26) 58 3 61) 3 26 26) 58 4 62 = H5 at h5 ⊢
  clear h h1 h2 h3 h4
  have h6 : CS L s 64 (S + 2983) 50 (FZ1 c) (al H5 1 1764 1764) := h5.oal rfl (by decide) rfl rfl
  have h7 : CS L s 65 (S + 3025) 51 (FZ1 c) (al (sr (al H5 1 1764 1764) 58 6 63) 1 42 42) := (h6.osr rfl rfl).oal rfl (by decide) rfl rfl
  have h8 : CS L s 66 (S + 3067) 52 (FZ1 c) (al (sr (al (sr (al H5 1 1764 1764) 58 6 63) 1 42 42) 58 7 64) 1 42 42) := (h7.osr rfl rfl).oal rfl (by decide) rfl rfl
  have h9 : CS L s 67 (S + 3107) 53 ((58, 10, -1) :: FZ1 c) (al (si (sr (al (sr (al (sr (al H5 1 1764 1764) 58 6 63) 1 42 42) 58 7 64) 1 42 42) 58 8 65) 58 10 (-1)) 1 40 40) := ((h8.osr rfl rfl).osi (by decide) rfl rfl).oal rfl (by decide) rfl rfl
  refine t_Model_new_37 (h6.kc (a := 58) (by decide) (by decide) rfl) (by rw [h5.1]; exact h7.kc (a := 58) (by decide) (by decide) rfl) (by rw [h5.1]; exact h8.kc (a := 58) (by decide) (by decide) rfl) ?_
  rw [h5.1]
  show wp (d - 1) sc_Model_new 72 [vR 58, vI x] [vR 66, vR 58] (al (si (sr (al (sr (al (sr (al H5 1 1764 1764) 58 6 63) 1 42 42) 58 7 64) 1 42 42) 58 8 65) 58 10 (-1)) 1 40 40) Q
  generalize al (si (sr (al (sr (al (sr (al H5 1 1764 1764) 58 6 63) 1 42 42) 58 7 64) 1 42 42) 58 8 65) 58 10 (-1)) 1 40 40 = H9 at h9 ⊢
  clear h5 h6 h7 h8
  have h10 : CS L s 68 (S + 3111) 54 ((58, 10, -1) :: FZ1 c) (al (sr H9 58 14 66) 1 4 4) := (h9.osr rfl rfl).oal rfl (by decide) rfl rfl
  have h11 : CS L s 69 (S + 3115) 55 ((58, 10, -1) :: FZ1 c) (al (sr (al (sr H9 58 14 66) 1 4 4) 58 17 67) 1 4 4) := (h10.osr rfl rfl).oal rfl (by decide) rfl rfl
  have h12 : CS L s 70 (S + 3119) 56 ((58, 10, -1) :: FZ1 c) (al (sr (al (sr (al (sr H9 58 14 66) 1 4 4) 58 17 67) 1 4 4) 58 18 68) 1 4 4) := (h11.osr rfl rfl).oal rfl (by decide) rfl rfl
  have h13 : CS L s 71 (S + 3319) 57 ((58, 10, -1) :: FZ1 c) (al (sr (al (sr (al (sr (al (sr H9 58 14 66) 1 4 4) 58 17 67) 1 4 4) 58 18 68) 1 4 4) 58 19 69) 1 200 200) := (h12.osr rfl rfl).oal rfl (by decide) rfl rfl
  refine t_Model_new_72 (h9.kc (a := 58) (by decide) (by decide) rfl) (h10.kc (a := 58) (by decide) (by decide) rfl) (by rw [h9.1]; exact h11.kc (a := 58) (by decide) (by decide) rfl) (by rw [h9.1]; exact h12.kc (a := 58) (by decide) (by decide) rfl) ?_
  rw [h9.1]
  show wp (d - 1) sc_Model_new 102 [vR 58, vI x] [vR 70, vR 58] (al (sr (al (sr (al (sr (al (sr H9 58 14 66) 1 4 4) 58 17 67) 1 4 4) 58 18 68) 1 4 4) 58 19 69) 1 200 200) Q
  generalize al (sr (al (sr (al (sr (al (sr H9 58 14 66) 1 4 4) 58 17 67) 1 4 4) 58 18 68) 1 4 4) 58 19 69) 1 200 200 = H13 at h13 ⊢
  clear h9 h10 h11 h12
  have k58 : (kd H13 58).1 = 31 := h13.kc (a := 58) (by decide) (by decide) rfl
  have fin : ∀ y, kZ x = y → Q none (si (sr H13 58 20 70) 58 5 y) := fun y hy => by
    subst hy
    exact k _ ((h13.osr rfl rfl).osi (by decide) rfl rfl)
  exact t_Model_new_102 k58 (fun _ _ => k58) (fun _ _ => k58) (fun _ => k58) (fun q1 q2 => fin _ (kZ_m1 q1 q2)) (fun _ q2 => fin _ (kZ_m2 q2)) (fun q1 => fin _ (kZ_m3 q1))
end CSP
