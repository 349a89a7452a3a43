/-! what is known at the law's entry -/
def fl1 : List Cond := flatC (Jvm.Cond.and given_1 narrow_1)
def ixS (i : Nat) : Nat := ([36, 46, 55, 64, 66, 72, 74, 76, 82, 84, 104, 106, 108, 110, 112, 114, 116] : List Nat).getD i 0
def tmS (i : Nat) : Term := Term.string "SharedPages$Screen" (ixS i)
theorem fs_1 : ∀ i, i < nS → Cond.exactly (tmS i) "java/lang/String" ∈ fl1 := by decide +kernel
theorem fs_2 : ∀ i, i < nS → Cond.eq (.field (tmS i) "java/lang/String" "coder" "B") (.int 0) ∈ fl1 := by decide +kernel
theorem fs_3 : ∀ i, i < nS → Cond.arrayOf (.field (tmS i) "java/lang/String" "value" "[B") .byte ∈ fl1 := by decide +kernel
theorem fs_4 : ∀ i, i < nS → Cond.eq (.length (.field (tmS i) "java/lang/String" "value" "[B")) (.int (Int32.ofNat (lenS.getD i 0))) ∈ fl1 := by decide +kernel
theorem fs_5 : ∀ i, i < nS → ∀ j, j < lenS.getD i 0 → Cond.eq (.elem (.field (tmS i) "java/lang/String" "value" "[B") (.int (Int32.ofNat j))) (.int ((bytS.getD i []).getD j 0)) ∈ fl1 := by decide +kernel
def PRS : List (Nat × Nat × Nat) := [(3, 4, 26), (3, 0, 33), (4, 0, 34), (3, 8, 43), (4, 8, 44), (0, 8, 45), (3, 9, 53), (4, 9, 54), (0, 9, 55), (8, 9, 56), (3, 10, 64), (4, 10, 65), (0, 10, 66), (8, 10, 67), (9, 10, 68), (3, 11, 76), (4, 11, 77), (0, 11, 78), (8, 11, 79), (9, 11, 80), (10, 11, 81), (3, 12, 90), (4, 12, 91), (0, 12, 92), (8, 12, 93), (9, 12, 94), (10, 12, 95), (11, 12, 96), (3, 13, 105), (4, 13, 106), (0, 13, 107), (8, 13, 108), (9, 13, 109), (10, 13, 110), (11, 13, 111), (12, 13, 112), (3, 14, 122), (4, 14, 123), (0, 14, 124), (8, 14, 125), (9, 14, 126), (10, 14, 127), (11, 14, 128), (12, 14, 129), (13, 14, 130), (3, 15, 139), (4, 15, 140), (0, 15, 141), (8, 15, 142), (9, 15, 143), (10, 15, 144), (11, 15, 145), (12, 15, 146), (13, 15, 147), (14, 15, 148), (3, 16, 157), (4, 16, 158), (0, 16, 159), (8, 16, 160), (9, 16, 161), (10, 16, 162), (11, 16, 163), (12, 16, 164), (13, 16, 165), (14, 16, 166), (15, 16, 167), (3, 1, 175), (4, 1, 176), (0, 1, 177), (8, 1, 178), (9, 1, 179), (10, 1, 180), (11, 1, 181), (12, 1, 182), (13, 1, 183), (14, 1, 184), (15, 1, 185), (16, 1, 186), (3, 5, 195), (4, 5, 196), (0, 5, 197), (8, 5, 198), (9, 5, 199), (10, 5, 200), (11, 5, 201), (12, 5, 202), (13, 5, 203), (14, 5, 204), (15, 5, 205), (16, 5, 206), (1, 5, 207), (3, 6, 216), (4, 6, 217), (0, 6, 218), (8, 6, 219), (9, 6, 220), (10, 6, 221), (11, 6, 222), (12, 6, 223), (13, 6, 224), (14, 6, 225), (15, 6, 226), (16, 6, 227), (1, 6, 228), (5, 6, 229), (3, 2, 239), (4, 2, 240), (0, 2, 241), (8, 2, 242), (9, 2, 243), (10, 2, 244), (11, 2, 245), (12, 2, 246), (13, 2, 247), (14, 2, 248), (15, 2, 249), (16, 2, 250), (1, 2, 251), (5, 2, 252), (6, 2, 253), (3, 7, 261), (4, 7, 262), (0, 7, 263), (8, 7, 264), (9, 7, 265), (10, 7, 266), (11, 7, 267), (12, 7, 268), (13, 7, 269), (14, 7, 270), (15, 7, 271), (16, 7, 272), (1, 7, 273), (5, 7, 274), (6, 7, 275), (2, 7, 276)]
theorem fs_6a : PRS.all (fun q => decide (fl1[q.2.2]? = some (Cond.not (Cond.eq (tmS q.1) (tmS q.2.1))))) = true := by decide +kernel
theorem fs_6b : ∀ i, i < nS → ∀ j, j < nS → i ≠ j → (PRS.any (fun q => q.1 == i && q.2.1 == j) = true ∨ PRS.any (fun q => q.1 == j && q.2.1 == i) = true) := by decide +kernel
theorem fs_6c {i j : Nat} (h : PRS.any (fun q => q.1 == i && q.2.1 == j) = true) : Cond.not (Cond.eq (tmS i) (tmS j)) ∈ fl1 := by
  obtain ⟨q, hq, h2⟩ := List.any_eq_true.mp h
  rw [Bool.and_eq_true] at h2
  have e1 : q.1 = i := eq_of_beq h2.1
  have e2 : q.2.1 = j := eq_of_beq h2.2
  have h3 := of_decide_eq_true (List.all_eq_true.mp fs_6a q hq)
  rw [e1, e2] at h3
  exact List.mem_of_getElem? h3
theorem fs_6 (i : Nat) (hi : i < nS) (j : Nat) (hj : j < nS) (hne : i ≠ j) : Cond.not (Cond.eq (tmS i) (tmS j)) ∈ fl1 ∨ Cond.not (Cond.eq (tmS j) (tmS i)) ∈ fl1 := (fs_6b i hi j hj hne).imp fs_6c fs_6c
theorem fs_7 : Cond.eq (.static "java/lang/String" "COMPACT_STRINGS" "Z") (.int 1) ∈ fl1 := by decide +kernel
theorem fs_8 : Cond.isRef (.static "jdk/internal/util/Preconditions" "SIOOBE_FORMATTER" "Ljava/util/function/BiFunction;") ∈ fl1 := by decide +kernel
theorem fs_9 : ∀ q ∈ SLL, q.1 = 6 ∧ q.2.1 = ixS q.2.2 ∧ q.2.2 < nS := by decide
theorem fs_10 : ∀ i, i < nS → Cond.stringRef "SharedPages$Screen" (ixS i) (stx i) ∈ tables_1 := by decide +kernel
theorem wj_z1 : Cond.laysStatic "java/lang/String" "COMPACT_STRINGS" "Z" ∈ lw_tbl := wB_mem (p := 648) (by decide +kernel)
theorem wj_z2 : Cond.laysStatic "jdk/internal/util/Preconditions" "SIOOBE_FORMATTER" "Ljava/util/function/BiFunction;" ∈ lw_tbl := wB_mem (p := 664) (by decide +kernel)
theorem wj_r4 : Cond.arrayOver (.object "SharedPages$Page") ∈ lw_tbl := wB_mem (p := 53) (by decide +kernel)
theorem wj_r5 : Cond.arrayOver (.object "SharedPages$Revision") ∈ lw_tbl := wB_mem (p := 181) (by decide +kernel)
theorem cll_all : ∀ c, c < nC → ∃ q ∈ CLL, q.2.2 = c := by decide
theorem arr_of {s : State} {args : Array Value} {ty : FieldType} (h : (Cond.arrayClass ty).before args s = true) : ∃ cA, ArrOfT s cA ty ∧ s.vm.findClass ("[" ++ ty.toString) = some cA := by
  obtain ⟨cA, kA, comp, h1, h2, h3⟩ := Cond.arrayClass_spec h
  exact ⟨cA, fun n z => ⟨(fun k h => by cases h), kA, h2, comp, h3⟩, h1⟩
theorem row_of {s : State} {args : Array Value} {C : String} (h : (Cond.arrayOver (.object C)).before args s = true) : ∃ cA, ArrOfT s cA (.object C) ∧ va_RA s cA (.object C) ∧ va_AO C s := by
  obtain ⟨comp, cA, kA, h1, -, h3, h4, h5⟩ := Cond.arrayOver_spec h
  exact ⟨cA, fun n z => ⟨(fun k h => by cases h), kA, h3, comp, h4⟩, ⟨kA, comp, h3, h4, h1, h5⟩, va_AO.of h⟩
theorem kf_start {s : State} {b L : Nat} {xs : Nat → Int32} (hts : ∀ w ∈ lw_tbl, w.before #[Value.ref b] s = true) (hX : va_X b L xs s s.heap) (hbl : b < s.heap.size) (hgv : (Jvm.Cond.and given_1 narrow_1).before #[Value.ref b] s = true) : ∃ E : SE, Kf E s.heap L xs s ∧ eS E = s.heap.size ∧ eB E = b := by
  have hg : ∀ w ∈ fl1, w.before #[Value.ref b] s = true := flat_of_before _ hgv
  have hD : ∀ c : Nat, ∃ q : ClassId × (Nat → Nat), c < nC → u_Kn s (cN c) (cT c) (fN c) q.1 q.2 := by
    intro c
    by_cases h : c < nC
    · obtain ⟨q, hq, hqc⟩ := cll_all c h
      have hi := (CLL_ok q hq).2.2.1
      rw [hqc] at hi
      obtain ⟨cC, iS, hu⟩ := u_known (ws := lw_tbl) hts (fun w hw => (cl_ws c h w hw).1) (hts _ hi)
      exact ⟨(cC, iS), fun _ => hu⟩
    · exact ⟨(0, fun _ => 0), fun h2 => absurd h2 h⟩
  obtain ⟨fD, hfD⟩ := Classical.axiomOfChoice hD
  obtain ⟨cI, i1, i2⟩ := arr_of (hts _ ar_int)
  obtain ⟨cC, c1, c2⟩ := arr_of (hts _ ar_char)
  obtain ⟨cZ, z1, z2⟩ := arr_of (hts _ ar_boolean)
  obtain ⟨c4, r4⟩ := row_of (hts _ wj_r4)
  obtain ⟨c5, r5⟩ := row_of (hts _ wj_r5)
  have hA : ∀ a : Nat, a < s.heap.size → ¬ s.heap.size ≤ a := fun a h1 h2 => by omega
  obtain ⟨adK, adV, hV, hev⟩ := vk_Sof (args := #[Value.ref b]) (s := s) (N := nS) (tm := tmS) (len := lenS) (byt := bytS) (A := fun q => s.heap.size ≤ q) (by decide) (fun i hi => hg _ (fs_1 i hi)) (fun i hi => hg _ (fs_2 i hi)) (fun i hi => hg _ (fs_3 i hi)) (fun i hi => hg _ (fs_4 i hi)) (fun i hi j hj => hg _ (fs_5 i hi j hj))
    (fun i j hi hj hne => (fs_6 i hi j hj hne).imp (fun h => hg _ h) (fun h => hg _ h)) hA
  refine ⟨((fun c => (fD c).1, fun c => (fD c).2), (cI, cC, cZ), fun c => if c = 4 then c4 else c5, (s.heap.size, b), adK), ⟨fun w hw hgw a => word_at (State.WarmedH.refl s) (good_of_word hgw) (hts w hw), fun w hw hn a => ?_, ⟨fun c q hq => ?_, fun k q hk => ?_⟩, fun c hc => ?_, fun q hq => ?_, hX, hbl, rfl, adV, hV, ?_, ?_⟩, rfl, rfl⟩
  · have h0 := hts w hw
    cases w <;> first
      | (simp [isNest] at hn; done)
      | exact va_Nw.use rfl (va_Nw.of rfl h0)
  · have hc : c < nC := by
      have := (List.getElem?_eq_some_iff.mp hq).1
      exact this
    have hq2 := cl_nm c hc
    rw [hq] at hq2
    cases hq2
    exact hfD c hc
  · have hk3 : k < 3 := (List.getElem?_eq_some_iff.mp hk).1
    have : k = 0 ∨ k = 1 ∨ k = 2 := by omega
    rcases this with rfl | rfl | rfl
    · cases hk; exact ⟨i1, i2⟩
    · cases hk; exact ⟨c1, c2⟩
    · cases hk; exact ⟨z1, z2⟩
  · have : c = 4 ∨ c = 5 := by
      have h2 : ∀ c ∈ RCL, c = 4 ∨ c = 5 := by decide
      exact h2 c hc
    rcases this with rfl | rfl
    · exact r4
    · exact r5
  · obtain ⟨q1, q2, q3⟩ := fs_9 q hq
    have hm : Cond.stringRef "SharedPages$Screen" (ixS q.2.2) (stx q.2.2) ∈ lw_tbl := List.mem_append_right _ (fs_10 q.2.2 q3)
    rw [q1, q2]
    exact vk_R.of (hts _ hm) (hev q.2.2 q3)
  · exact va_Zof (hts _ wj_z1) (hts _ wj_iS) (va_eqt (hg _ fs_7)) hA
  · exact va_Zqof (hts _ wj_z2) (hts _ wj_iP) (hg _ fs_8) hA
theorem sim_start {E : SE} {G : Heap} {L : Nat} {xs : Nat → Int32} (hS : G.size = eS E) : Sim E G L xs (H0 L xs) G := by
  have hk : K0 = 19 := rfl
  have hn : nx (H0 L xs) = 19 := rfl
  have hkd : ∀ a, kd (H0 L xs) a = KN L 19 a := fun _ => rfl
  have h2 : ∀ a, (KN L 19 a).1 = 0 ∨ (KN L 19 a).1 = 4 ∨ (KN L 19 a).1 = 5 := by
    intro a
    unfold KN tK
    by_cases q : a < 19
    · rw [if_pos q]
      by_cases q1 : a = 1
      · rw [if_pos q1]; exact Or.inr (Or.inl rfl)
      · rw [if_neg q1]
        by_cases q0 : a = 0
        · rw [if_pos q0]; exact Or.inl rfl
        · rw [if_neg q0, if_pos q]; exact Or.inr (Or.inr rfl)
    · rw [if_neg q]; exact Or.inl rfl
  refine ⟨fun a h1 h3 => by omega, by rw [hn, hk, hS]; omega, fun _ _ => rfl, ⟨by rw [hn, hk]; exact Nat.le_refl _, rfl, ?_, fun j hj => ?_, fun a h1 h3 => by omega, fun a ha => ?_⟩, fun j _ => ?_, fun a ha => ?_⟩
  · exact cs_0.k1 (by decide)
  · have h17 : j < 17 := hj
    rw [hkd, KN_lt (by omega) (by omega)]
    unfold tK
    rw [if_neg (by omega), if_pos (by omega), show 2 + j - 2 = j by omega]
  · rw [hn] at ha
    rw [hkd]
    unfold KN
    rw [if_neg (by omega)]
  · show (if 1 = 1 then xs j else 0) = xs j
    rw [if_pos rfl]
  · rw [hkd] at ha
    have := h2 a
    omega
set_option maxRecDepth 100000 in
theorem mc_law : chkL 12 false 1 4 code sc_Law_law 0 = true := by decide +kernel
