/-! what is known at the law's entry -/
def fl1 : List Cond := flatC (Jvm.Cond.and given_1 narrow_1)
def ixS (i : Nat) : Nat := ([36, 46, 55, 64, 66, 72, 74, 76, 82, 84, 104, 106, 108, 110, 112, 114, 116] : List Nat).getD i 0
def tmS (i : Nat) : Term := Term.string "SharedPages$Screen" (ixS i)
theorem fs_1 : ∀ i, i < nS → Cond.exactly (tmS i) "java/lang/String" ∈ fl1 := by decide +kernel
theorem fs_2 : ∀ i, i < nS → Cond.eq (.field (tmS i) "java/lang/String" "coder" "B") (.int 0) ∈ fl1 := by decide +kernel
theorem fs_3 : ∀ i, i < nS → Cond.arrayOf (.field (tmS i) "java/lang/String" "value" "[B") .byte ∈ fl1 := by decide +kernel
theorem fs_4 : ∀ i, i < nS → Cond.eq (.length (.field (tmS i) "java/lang/String" "value" "[B")) (.int (Int32.ofNat (lenS.getD i 0))) ∈ fl1 := by decide +kernel
theorem fs_5 : ∀ i, i < nS → ∀ j, j < lenS.getD i 0 → Cond.eq (.elem (.field (tmS i) "java/lang/String" "value" "[B") (.int (Int32.ofNat j))) (.int ((bytS.getD i []).getD j 0)) ∈ fl1 := by decide +kernel
theorem fs_6 : ∀ i, i < nS → ∀ j, j < nS → i ≠ j → Cond.not (Cond.eq (tmS i) (tmS j)) ∈ fl1 ∨ Cond.not (Cond.eq (tmS j) (tmS i)) ∈ fl1 := by decide +kernel
theorem fs_7 : Cond.eq (.static "java/lang/String" "COMPACT_STRINGS" "Z") (.int 1) ∈ fl1 := by decide +kernel
theorem fs_8 : Cond.isRef (.static "jdk/internal/util/Preconditions" "SIOOBE_FORMATTER" "Ljava/util/function/BiFunction;") ∈ fl1 := by decide +kernel
theorem fs_9 : ∀ q ∈ SLL, q.1 = 6 ∧ q.2.1 = ixS q.2.2 ∧ q.2.2 < nS := by decide
theorem fs_10 : ∀ i, i < nS → Cond.stringRef "SharedPages$Screen" (ixS i) (stx i) ∈ tables_1 := by decide +kernel
theorem wj_z1 : Cond.laysStatic "java/lang/String" "COMPACT_STRINGS" "Z" ∈ lw_tbl := wB_mem (p := 648) (by decide +kernel)
theorem wj_z2 : Cond.laysStatic "jdk/internal/util/Preconditions" "SIOOBE_FORMATTER" "Ljava/util/function/BiFunction;" ∈ lw_tbl := wB_mem (p := 664) (by decide +kernel)
theorem wj_r4 : Cond.arrayOver (.object "SharedPages$Page") ∈ lw_tbl := wB_mem (p := 53) (by decide +kernel)
theorem wj_r5 : Cond.arrayOver (.object "SharedPages$Revision") ∈ lw_tbl := wB_mem (p := 181) (by decide +kernel)
theorem cll_all : ∀ c, c < nC → ∃ q ∈ CLL, q.2.2 = c := by decide
theorem arr_of {s : State} {args : Array Value} {ty : FieldType} (h : (Cond.arrayClass ty).before args s = true) : ∃ cA, ArrOfT s cA ty ∧ s.vm.findClass ("[" ++ ty.toString) = some cA := by
  obtain ⟨cA, kA, comp, h1, h2, h3⟩ := Cond.arrayClass_spec h
  exact ⟨cA, fun n z => ⟨(fun k h => by cases h), kA, h2, comp, h3⟩, h1⟩
theorem row_of {s : State} {args : Array Value} {C : String} (h : (Cond.arrayOver (.object C)).before args s = true) : ∃ cA, ArrOfT s cA (.object C) ∧ va_RA s cA (.object C) ∧ va_AO C s := by
  obtain ⟨comp, cA, kA, h1, -, h3, h4, h5⟩ := Cond.arrayOver_spec h
  exact ⟨cA, fun n z => ⟨(fun k h => by cases h), kA, h3, comp, h4⟩, ⟨kA, comp, h3, h4, h1, h5⟩, va_AO.of h⟩
theorem kf_start {s : State} {b L : Nat} {xs : Nat → Int32} (hts : ∀ w ∈ lw_tbl, w.before #[Value.ref b] s = true) (hX : va_X b L xs s s.heap) (hbl : b < s.heap.size) (hgv : (Jvm.Cond.and given_1 narrow_1).before #[Value.ref b] s = true) : ∃ E : SE, Kf E s.heap L xs s ∧ eS E = s.heap.size ∧ eB E = b := by
  have hg : ∀ w ∈ fl1, w.before #[Value.ref b] s = true := flat_of_before _ hgv
  have hD : ∀ c : Nat, ∃ q : ClassId × (Nat → Nat), c < nC → u_Kn s (cN c) (cT c) (fN c) q.1 q.2 := by
    intro c
    by_cases h : c < nC
    · obtain ⟨q, hq, hqc⟩ := cll_all c h
      have hi := (CLL_ok q hq).2.2.1
      rw [hqc] at hi
      obtain ⟨cC, iS, hu⟩ := u_known (ws := lw_tbl) hts (fun w hw => (cl_ws c h w hw).1) (hts _ hi)
      exact ⟨(cC, iS), fun _ => hu⟩
    · exact ⟨(0, fun _ => 0), fun h2 => absurd h2 h⟩
  obtain ⟨fD, hfD⟩ := Classical.axiomOfChoice hD
  obtain ⟨cI, i1, i2⟩ := arr_of (hts _ ar_int)
  obtain ⟨cC, c1, c2⟩ := arr_of (hts _ ar_char)
  obtain ⟨cZ, z1, z2⟩ := arr_of (hts _ ar_boolean)
  obtain ⟨c4, r4⟩ := row_of (hts _ wj_r4)
  obtain ⟨c5, r5⟩ := row_of (hts _ wj_r5)
  have hA : ∀ a : Nat, a < s.heap.size → ¬ s.heap.size ≤ a := fun a h1 h2 => by omega
  obtain ⟨adK, adV, hV, hev⟩ := vk_Sof (args := #[Value.ref b]) (s := s) (N := nS) (tm := tmS) (len := lenS) (byt := bytS) (A := fun q => s.heap.size ≤ q) (by decide) (fun i hi => hg _ (fs_1 i hi)) (fun i hi => hg _ (fs_2 i hi)) (fun i hi => hg _ (fs_3 i hi)) (fun i hi => hg _ (fs_4 i hi)) (fun i hi j hj => hg _ (fs_5 i hi j hj))
    (fun i j hi hj hne => (fs_6 i hi j hj hne).imp (fun h => hg _ h) (fun h => hg _ h)) hA
  refine ⟨((fun c => (fD c).1, fun c => (fD c).2), (cI, cC, cZ), fun c => if c = 4 then c4 else c5, (s.heap.size, b), adK), ⟨fun w hw hgw a => word_at (State.WarmedH.refl s) (good_of_word hgw) (hts w hw), fun w hw hn a => ?_, ⟨fun c q hq => ?_, fun k q hk => ?_⟩, fun c hc => ?_, fun q hq => ?_, hX, hbl, rfl, adV, hV, ?_, ?_⟩, rfl, rfl⟩
  · have h0 := hts w hw
    cases w <;> first
      | (simp [isNest] at hn; done)
      | exact va_Nw.use rfl (va_Nw.of rfl h0)
  · have hc : c < nC := by
      have := (List.getElem?_eq_some_iff.mp hq).1
      exact this
    have hq2 := cl_nm c hc
    rw [hq] at hq2
    cases hq2
    exact hfD c hc
  · have hk3 : k < 3 := (List.getElem?_eq_some_iff.mp hk).1
    have : k = 0 ∨ k = 1 ∨ k = 2 := by omega
    rcases this with rfl | rfl | rfl
    · cases hk; exact ⟨i1, i2⟩
    · cases hk; exact ⟨c1, c2⟩
    · cases hk; exact ⟨z1, z2⟩
  · have : c = 4 ∨ c = 5 := by
      have h2 : ∀ c ∈ RCL, c = 4 ∨ c = 5 := by decide
      exact h2 c hc
    rcases this with rfl | rfl
    · exact r4
    · exact r5
  · obtain ⟨q1, q2, q3⟩ := fs_9 q hq
    have hm : Cond.stringRef "SharedPages$Screen" (ixS q.2.2) (stx q.2.2) ∈ lw_tbl := List.mem_append_right _ (fs_10 q.2.2 q3)
    rw [q1, q2]
    exact vk_R.of (hts _ hm) (hev q.2.2 q3)
  · exact va_Zof (hts _ wj_z1) (hts _ wj_iS) (va_eqt (hg _ fs_7)) hA
  · exact va_Zqof (hts _ wj_z2) (hts _ wj_iP) (hg _ fs_8) hA
theorem sim_start {E : SE} {G : Heap} {L : Nat} {xs : Nat → Int32} (hS : G.size = eS E) : Sim E G L xs (H0 L xs) G := by
  have hk : K0 = 19 := rfl
  have hn : nx (H0 L xs) = 19 := rfl
  have hkd : ∀ a, kd (H0 L xs) a = KN L 19 a := fun _ => rfl
  have h2 : ∀ a, (KN L 19 a).1 = 0 ∨ (KN L 19 a).1 = 4 ∨ (KN L 19 a).1 = 5 := by
    intro a
    unfold KN tK
    by_cases q : a < 19
    · rw [if_pos q]
      by_cases q1 : a = 1
      · rw [if_pos q1]; exact Or.inr (Or.inl rfl)
      · rw [if_neg q1]
        by_cases q0 : a = 0
        · rw [if_pos q0]; exact Or.inl rfl
        · rw [if_neg q0, if_pos q]; exact Or.inr (Or.inr rfl)
    · rw [if_neg q]; exact Or.inl rfl
  refine ⟨fun a h1 h3 => by omega, by rw [hn, hk, hS], fun _ _ => rfl, ⟨by rw [hn, hk]; exact Nat.le_refl _, rfl, ?_, fun j hj => ?_, fun a h1 h3 => by omega, fun a ha => ?_⟩, fun j _ => ?_, fun a ha => ?_⟩
  · exact cs_0.k1 (by decide)
  · have h17 : j < 17 := hj
    rw [hkd, KN_lt (by omega) (by omega)]
    unfold tK
    rw [if_neg (by omega), if_pos (by omega), show 2 + j - 2 = j by omega]
  · rw [hn] at ha
    rw [hkd]
    unfold KN
    rw [if_neg (by omega)]
  · show (if 1 = 1 then xs j else 0) = xs j
    rw [if_pos rfl]
  · rw [hkd] at ha
    have := h2 a
    omega
set_option maxRecDepth 100000 in
theorem mc_law : chkL 12 false 1 4 code sc_Law_law 0 = true := by decide +kernel
