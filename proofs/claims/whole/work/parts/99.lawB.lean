/-! the law's loop -/
theorem sw_all {P : Nat → Prop} (l : List Nat) (dflt : Nat) (hd : P dflt) (hl : ∀ p, p ∈ l → P p) (j : Nat) : P (l.getD j dflt) := by
  rw [List.getD_eq_getElem?_getD]
  cases e : l[j]? with
  | none => exact hd
  | some v => exact hl v (List.mem_of_getElem? e)
theorem sc19 : Sc 19 := by unfold Sc; omega
theorem rl_0 : RL Sc [vR 19] := ⟨sc19, trivial⟩
theorem rl_1 {x : Int32} : RL Sc [vR 19, vI x] := ⟨sc19, trivial, trivial⟩
theorem rl_2 {x y : Int32} : RL Sc [vR 19, vI x, vI y] := ⟨sc19, trivial, trivial, trivial⟩
theorem sr58 {n : Nat} : Sr n 58 := Or.inr (Or.inl (by omega))
theorem rr_0 {n : Nat} : RL (Sr n) [vR 58] := ⟨sr58, trivial⟩
theorem rr_1 {n : Nat} {x : Int32} : RL (Sr n) [vR 58, vI x] := ⟨sr58, trivial, trivial⟩
theorem rr_2 {n : Nat} {x y : Int32} : RL (Sr n) [vR 58, vI x, vI y] := ⟨sr58, trivial, trivial, trivial⟩
section LAWB
variable {d L : Nat} {H : AH} {σ : SG} {Q : Option AV → AH → Prop} {i : Nat}
theorem end_iff (hL : L < 2 ^ 31) (hi : i < 2 ^ 31) : Int32.ofNat L - 3 < nI i ↔ L < i + 3 := by
  have e : Int32.ofNat L = nI L := rfl
  rw [e]
  rcases Nat.lt_or_ge L 3 with q | q
  · have h0 : (0 : Int32) ≤ nI i := Int32.not_lt.mp (nI_pos hi)
    have h3 : nI L - 3 < 0 := by
      have : L = 0 ∨ L = 1 ∨ L = 2 := by omega
      rcases this with rfl | rfl | rfl <;> decide
    exact ⟨fun _ => by omega, fun _ => Int32.lt_of_lt_of_le h3 h0⟩
  · rw [show (3 : Int32) = nI 3 from rfl, nI_sub q, nI_ltI (by omega) hi]
    omega
set_option maxHeartbeats 1600000 in
theorem law_op (hd : 16 ≤ d) (hLI : LI L H σ) (hi : i + 3 ≤ L) (hL : L < 2 ^ 31) (go : ∀ H2 σ2, LI L H2 σ2 → nx H2 ≤ nx H + 4 → su H2 ≤ su H + 90 → wp d sc_Law_law 28 [vR 1, vR 19, vR 58, vI (nI i + 3)] [] H2 Q) (j : Nat) :
    wp d sc_Law_law (([136, 161, 196, 219, 230, 243, 266, 299, 332, 355, 388, 411, 434, 467, 490, 513, 536, 559, 582, 605] : List Nat).getD j 618) [vR 1, vR 19, vR 58, vI (nI i)] [] H Q := by
  have hLI2 := hLI
  obtain ⟨hC, hR, h58, hCL, hK, hz, h1⟩ := hLI2
  have hF := hC.1
  have k4 : (kd H 1).1 = 4 := by rw [h1]
  have u1 : vp_in (nI i + 1) L := by rw [nI_1]; exact vp_in_nI (by omega) hL
  have u2 : vp_in (nI i + 2) L := by rw [show nI i + 2 = nI (i + 2) from nI_add i 2]; exact vp_in_nI (by omega) hL
  have v1 : vp_in (nI i + 1) (kd H 1).2 := by rw [h1]; exact u1
  have v2 : vp_in (nI i + 2) (kd H 1).2 := by rw [h1]; exact u2
  have go0 := go H σ hLI (Nat.le_add_right _ _) (Nat.le_add_right _ _)
  have p136 : wp d sc_Law_law 136 [vR 1, vR 19, vR 58, vI (nI i)] [] H Q := by
    refine t_Law_law_136 k4 v1 (CWP.mono (law_pair (σ' := (sp_type σ (((gi H 1 (nI i + 1).toNatClampNeg).toUInt32 % 65536).toInt32)).2) (y := some (vI (sp_type σ (((gi H 1 (nI i + 1).toNatClampNeg).toUInt32 % 65536).toInt32)).1)) (as2 := [vR 58, vI (((gi H 1 (nI i + 1).toNatClampNeg).toUInt32 % 65536).toInt32)]) (m2 := 147) hLI (by decide) (by decide) rl_1 (fun n => rr_1) (x_type (by omega) hC (fun g' C' => ⟨rfl, Nat.le_add_right _ _, Nat.le_add_right _ _, C'.owi⟩)) (fun H1 hF1 hR1 => r_type (by omega) hF1 hR1 (fun g' h' => ⟨rfl, g', rfl, h'⟩))) ?_)
    rintro r1 H1 ⟨rfl, k1, g1, hc2⟩
    refine t_Law_law_146 (by rw [k1]) (by rw [k1]; exact u1) ?_
    rw [g1]
    refine CWP.mono hc2 ?_
    rintro r2 H2 ⟨rfl, g2, hL2, hn2, hs2⟩
    exact t_Law_law_156 (fun _ => go H2 _ hL2 hn2 hs2) (fun z => absurd rfl z)
  have p161 : wp d sc_Law_law 161 [vR 1, vR 19, vR 58, vI (nI i)] [] H Q := by
    refine t_Law_law_161 k4 v1 v2 (CWP.mono (law_pair (σ' := (sp_put σ ((gi H 1 (nI i + 1).toNatClampNeg)) (((gi H 1 (nI i + 2).toNatClampNeg).toUInt32 % 65536).toInt32)).2) (y := some (vI (sp_put σ ((gi H 1 (nI i + 1).toNatClampNeg)) (((gi H 1 (nI i + 2).toNatClampNeg).toUInt32 % 65536).toInt32)).1)) (as2 := [vR 58, vI ((gi H 1 (nI i + 1).toNatClampNeg)), vI (((gi H 1 (nI i + 2).toNatClampNeg).toUInt32 % 65536).toInt32)]) (m2 := 148) hLI (by decide) (by decide) rl_2 (fun n => rr_2) (x_put (by omega) hC (fun g' C' => ⟨rfl, Nat.le_add_right _ _, Nat.le_add_right _ _, C'.owi⟩)) (fun H1 hF1 hR1 => r_put (by omega) hF1 hR1 (fun g' h' => ⟨rfl, g', rfl, h'⟩))) ?_)
    rintro r1 H1 ⟨rfl, k1, g1, hc2⟩
    refine t_Law_law_176 (by rw [k1]) (by rw [k1]; exact u1) (by rw [k1]; exact u2) ?_
    rw [g1]
    refine CWP.mono hc2 ?_
    rintro r2 H2 ⟨rfl, g2, hL2, hn2, hs2⟩
    exact t_Law_law_191 (fun _ => go H2 _ hL2 hn2 hs2) (fun z => absurd rfl z)
  have p196 : wp d sc_Law_law 196 [vR 1, vR 19, vR 58, vI (nI i)] [] H Q := by
    refine t_Law_law_196 k4 v1 (CWP.mono (law_pair (σ' := (sp_drop σ ((gi H 1 (nI i + 1).toNatClampNeg))).2) (y := some (vI (sp_drop σ ((gi H 1 (nI i + 1).toNatClampNeg))).1)) (as2 := [vR 58, vI ((gi H 1 (nI i + 1).toNatClampNeg))]) (m2 := 149) hLI (by decide) (by decide) rl_1 (fun n => rr_1) (x_drop (by omega) hC (fun g' C' => ⟨rfl, Nat.le_add_right _ _, Nat.le_add_right _ _, C'.owi⟩)) (fun H1 hF1 hR1 => r_drop (by omega) hF1 hR1 (fun g' h' => ⟨rfl, g', rfl, h'⟩))) ?_)
    rintro r1 H1 ⟨rfl, k1, g1, hc2⟩
    refine t_Law_law_205 (by rw [k1]) (by rw [k1]; exact u1) ?_
    rw [g1]
    refine CWP.mono hc2 ?_
    rintro r2 H2 ⟨rfl, g2, hL2, hn2, hs2⟩
    exact t_Law_law_214 (fun _ => go H2 _ hL2 hn2 hs2) (fun z => absurd rfl z)
  have p219 : wp d sc_Law_law 219 [vR 1, vR 19, vR 58, vI (nI i)] [] H Q := by
    refine t_Law_law_219  (CWP.mono (law_pair (σ' := (σ.1, [], σ.2.2)) (y := none) (as2 := [vR 58]) (m2 := 150) hLI (by decide) (by decide) rl_0 (fun n => rr_0) (x_clear (by omega) hC (fun g' C' => ⟨rfl, Nat.le_add_right _ _, Nat.le_add_right _ _, C'.owi⟩)) (fun H1 hF1 hR1 => r_clear (by omega) hF1 hR1 (fun g' h' => ⟨rfl, g', rfl, h'⟩))) ?_)
    rintro r1 H1 ⟨rfl, k1, g1, hc2⟩
    refine t_Law_law_223 (CWP.mono hc2 ?_)
    rintro r2 H2 ⟨rfl, g2, hL2, hn2, hs2⟩
    exact t_Law_law_227 (go H2 _ hL2 hn2 hs2)
  have p243 : wp d sc_Law_law 243 [vR 1, vR 19, vR 58, vI (nI i)] [] H Q := by
    refine t_Law_law_243 k4 v1 (CWP.mono (law_pair (σ' := σ) (y := some (vI (sp_at σ ((gi H 1 (nI i + 1).toNatClampNeg))))) (as2 := [vR 58, vI ((gi H 1 (nI i + 1).toNatClampNeg))]) (m2 := 152) hLI (by decide) (by decide) rl_1 (fun n => rr_1) (x_at (by omega) hC ⟨rfl, Nat.le_add_right _ _, Nat.le_add_right _ _, hC⟩) (fun H1 hF1 hR1 => r_at (by omega) hF1 hR1 ⟨rfl, _, rfl, hR1⟩)) ?_)
    rintro r1 H1 ⟨rfl, k1, g1, hc2⟩
    refine t_Law_law_252 (by rw [k1]) (by rw [k1]; exact u1) ?_
    rw [g1]
    refine CWP.mono hc2 ?_
    rintro r2 H2 ⟨rfl, g2, hL2, hn2, hs2⟩
    exact t_Law_law_261 (fun _ => go H2 _ hL2 hn2 hs2) (fun z => absurd rfl z)
  have p266 : wp d sc_Law_law 266 [vR 1, vR 19, vR 58, vI (nI i)] [] H Q := by
    refine t_Law_law_266 k4 v1 v2 (CWP.mono (law_pair (σ' := (sp_save σ ((gi H 1 (nI i + 1).toNatClampNeg)) ((gi H 1 (nI i + 2).toNatClampNeg))).2) (y := some (vI (sp_save σ ((gi H 1 (nI i + 1).toNatClampNeg)) ((gi H 1 (nI i + 2).toNatClampNeg))).1)) (as2 := [vR 58, vI ((gi H 1 (nI i + 1).toNatClampNeg)), vI ((gi H 1 (nI i + 2).toNatClampNeg))]) (m2 := 137) hLI (by decide) (by decide) rl_2 (fun n => rr_2) (x_save (by omega) hC (fun H' g' n u C' => ⟨rfl, n, u, C'.owi⟩)) (fun H1 hF1 hR1 => r_save (by omega) hF1 hR1 (fun g' h' => ⟨rfl, g', rfl, h'⟩))) ?_)
    rintro r1 H1 ⟨rfl, k1, g1, hc2⟩
    refine t_Law_law_280 (by rw [k1]) (by rw [k1]; exact u1) (by rw [k1]; exact u2) ?_
    rw [g1]
    refine CWP.mono hc2 ?_
    rintro r2 H2 ⟨rfl, g2, hL2, hn2, hs2⟩
    exact t_Law_law_294 (fun _ => go H2 _ hL2 hn2 hs2) (fun z => absurd rfl z)
  have p299 : wp d sc_Law_law 299 [vR 1, vR 19, vR 58, vI (nI i)] [] H Q := by
    refine t_Law_law_299 k4 v1 v2 (CWP.mono (law_pair (σ' := (sp_rev σ ((gi H 1 (nI i + 1).toNatClampNeg)) ((gi H 1 (nI i + 2).toNatClampNeg))).2) (y := some (vI (sp_rev σ ((gi H 1 (nI i + 1).toNatClampNeg)) ((gi H 1 (nI i + 2).toNatClampNeg))).1)) (as2 := [vR 58, vI ((gi H 1 (nI i + 1).toNatClampNeg)), vI ((gi H 1 (nI i + 2).toNatClampNeg))]) (m2 := 140) hLI (by decide) (by decide) rl_2 (fun n => rr_2) (x_revert (by omega) hC (fun H' g' n u C' => ⟨rfl, n, u, C'.owi⟩)) (fun H1 hF1 hR1 => r_revert (by omega) hF1 hR1 (fun g' h' => ⟨rfl, g', rfl, h'⟩))) ?_)
    rintro r1 H1 ⟨rfl, k1, g1, hc2⟩
    refine t_Law_law_313 (by rw [k1]) (by rw [k1]; exact u1) (by rw [k1]; exact u2) ?_
    rw [g1]
    refine CWP.mono hc2 ?_
    rintro r2 H2 ⟨rfl, g2, hL2, hn2, hs2⟩
    exact t_Law_law_327 (fun _ => go H2 _ hL2 hn2 hs2) (fun z => absurd rfl z)
  have p332 : wp d sc_Law_law 332 [vR 1, vR 19, vR 58, vI (nI i)] [] H Q := by
    refine t_Law_law_332 k4 v1 (CWP.mono (law_pair (σ' := (sp_rem σ ((gi H 1 (nI i + 1).toNatClampNeg))).2) (y := some (vI (sp_rem σ ((gi H 1 (nI i + 1).toNatClampNeg))).1)) (as2 := [vR 58, vI ((gi H 1 (nI i + 1).toNatClampNeg))]) (m2 := 141) hLI (by decide) (by decide) rl_1 (fun n => rr_1) (x_remove (by omega) hC (fun H' g' n u C' => ⟨rfl, n, u, C'.owi⟩)) (fun H1 hF1 hR1 => r_remove (by omega) hF1 hR1 (fun g' h' => ⟨rfl, g', rfl, h'⟩))) ?_)
    rintro r1 H1 ⟨rfl, k1, g1, hc2⟩
    refine t_Law_law_341 (by rw [k1]) (by rw [k1]; exact u1) ?_
    rw [g1]
    refine CWP.mono hc2 ?_
    rintro r2 H2 ⟨rfl, g2, hL2, hn2, hs2⟩
    exact t_Law_law_350 (fun _ => go H2 _ hL2 hn2 hs2) (fun z => absurd rfl z)
  have p355 : wp d sc_Law_law 355 [vR 1, vR 19, vR 58, vI (nI i)] [] H Q := by
    refine t_Law_law_355 k4 v1 v2 (CWP.mono (law_pair (σ' := (sp_load σ ((gi H 1 (nI i + 1).toNatClampNeg)) ((gi H 1 (nI i + 2).toNatClampNeg))).2) (y := some (vI (sp_load σ ((gi H 1 (nI i + 1).toNatClampNeg)) ((gi H 1 (nI i + 2).toNatClampNeg))).1)) (as2 := [vR 58, vI ((gi H 1 (nI i + 1).toNatClampNeg)), vI ((gi H 1 (nI i + 2).toNatClampNeg))]) (m2 := 142) hLI (by decide) (by decide) rl_2 (fun n => rr_2) (x_load (by omega) hC (fun g' C' => ⟨rfl, Nat.le_add_right _ _, Nat.le_add_right _ _, C'.owi⟩)) (fun H1 hF1 hR1 => r_load (by omega) hF1 hR1 (fun g' h' => ⟨rfl, g', rfl, h'⟩))) ?_)
    rintro r1 H1 ⟨rfl, k1, g1, hc2⟩
    refine t_Law_law_369 (by rw [k1]) (by rw [k1]; exact u1) (by rw [k1]; exact u2) ?_
    rw [g1]
    refine CWP.mono hc2 ?_
    rintro r2 H2 ⟨rfl, g2, hL2, hn2, hs2⟩
    exact t_Law_law_383 (fun _ => go H2 _ hL2 hn2 hs2) (fun z => absurd rfl z)
  have p388 : wp d sc_Law_law 388 [vR 1, vR 19, vR 58, vI (nI i)] [] H Q := by
    refine t_Law_law_388 k4 v1 (CWP.mono (law_pair (σ' := σ) (y := some (vI (sp_latest σ ((gi H 1 (nI i + 1).toNatClampNeg))))) (as2 := [vR 58, vI ((gi H 1 (nI i + 1).toNatClampNeg))]) (m2 := 143) hLI (by decide) (by decide) rl_1 (fun n => rr_1) (x_latest (by omega) hC ⟨rfl, Nat.le_add_right _ _, Nat.le_add_right _ _, hC⟩) (fun H1 hF1 hR1 => r_latest (by omega) hF1 hR1 ⟨rfl, _, rfl, hR1⟩)) ?_)
    rintro r1 H1 ⟨rfl, k1, g1, hc2⟩
    refine t_Law_law_397 (by rw [k1]) (by rw [k1]; exact u1) ?_
    rw [g1]
    refine CWP.mono hc2 ?_
    rintro r2 H2 ⟨rfl, g2, hL2, hn2, hs2⟩
    exact t_Law_law_406 (fun _ => go H2 _ hL2 hn2 hs2) (fun z => absurd rfl z)
  have p411 : wp d sc_Law_law 411 [vR 1, vR 19, vR 58, vI (nI i)] [] H Q := by
    refine t_Law_law_411 k4 v1 (CWP.mono (law_pair (σ' := σ) (y := some (vI (sp_there σ ((gi H 1 (nI i + 1).toNatClampNeg))))) (as2 := [vR 58, vI ((gi H 1 (nI i + 1).toNatClampNeg))]) (m2 := 144) hLI (by decide) (by decide) rl_1 (fun n => rr_1) (x_there (by omega) hC ⟨rfl, Nat.le_add_right _ _, Nat.le_add_right _ _, hC⟩) (fun H1 hF1 hR1 => r_there (by omega) hF1 hR1 ⟨rfl, _, rfl, hR1⟩)) ?_)
    rintro r1 H1 ⟨rfl, k1, g1, hc2⟩
    refine t_Law_law_420 (by rw [k1]) (by rw [k1]; exact u1) ?_
    rw [g1]
    refine CWP.mono hc2 ?_
    rintro r2 H2 ⟨rfl, g2, hL2, hn2, hs2⟩
    exact t_Law_law_429 (fun _ => go H2 _ hL2 hn2 hs2) (fun z => absurd rfl z)
  have p434 : wp d sc_Law_law 434 [vR 1, vR 19, vR 58, vI (nI i)] [] H Q := by
    refine t_Law_law_434 k4 v1 v2 (CWP.mono (law_pair (σ' := σ) (y := some (vI (sp_size σ ((gi H 1 (nI i + 1).toNatClampNeg)) ((gi H 1 (nI i + 2).toNatClampNeg))))) (as2 := [vR 58, vI ((gi H 1 (nI i + 1).toNatClampNeg)), vI ((gi H 1 (nI i + 2).toNatClampNeg))]) (m2 := 145) hLI (by decide) (by decide) rl_2 (fun n => rr_2) (x_size (by omega) hC ⟨rfl, Nat.le_add_right _ _, Nat.le_add_right _ _, hC⟩) (fun H1 hF1 hR1 => r_size (by omega) hF1 hR1 (fun g' h' => ⟨rfl, g', rfl, h'⟩))) ?_)
    rintro r1 H1 ⟨rfl, k1, g1, hc2⟩
    refine t_Law_law_448 (by rw [k1]) (by rw [k1]; exact u1) (by rw [k1]; exact u2) ?_
    rw [g1]
    refine CWP.mono hc2 ?_
    rintro r2 H2 ⟨rfl, g2, hL2, hn2, hs2⟩
    exact t_Law_law_462 (fun _ => go H2 _ hL2 hn2 hs2) (fun z => absurd rfl z)
  have p467 : wp d sc_Law_law 467 [vR 1, vR 19, vR 58, vI (nI i)] [] H Q := by
    refine t_Law_law_467 k4 v1 (CWP.mono (law_pair (σ' := σ) (y := some (vI (sp_links σ ((gi H 1 (nI i + 1).toNatClampNeg))))) (as2 := [vR 58, vI ((gi H 1 (nI i + 1).toNatClampNeg))]) (m2 := 158) hLI (by decide) (by decide) rl_1 (fun n => rr_1) (x_links (by omega) hC (fun g' C' => ⟨rfl, Nat.le_add_right _ _, Nat.le_add_right _ _, C'.owi⟩)) (fun H1 hF1 hR1 => r_links (by omega) hF1 hR1 (fun g' h' => ⟨rfl, g', rfl, h'⟩))) ?_)
    rintro r1 H1 ⟨rfl, k1, g1, hc2⟩
    refine t_Law_law_476 (by rw [k1]) (by rw [k1]; exact u1) ?_
    rw [g1]
    refine CWP.mono hc2 ?_
    rintro r2 H2 ⟨rfl, g2, hL2, hn2, hs2⟩
    exact t_Law_law_485 (fun _ => go H2 _ hL2 hn2 hs2) (fun z => absurd rfl z)
  have p490 : wp d sc_Law_law 490 [vR 1, vR 19, vR 58, vI (nI i)] [] H Q := by
    refine t_Law_law_490 k4 v1 (CWP.mono (law_pair (σ' := σ) (y := some (vI (sp_back σ ((gi H 1 (nI i + 1).toNatClampNeg))))) (as2 := [vR 58, vI ((gi H 1 (nI i + 1).toNatClampNeg))]) (m2 := 159) hLI (by decide) (by decide) rl_1 (fun n => rr_1) (x_back (by omega) hC (fun g' C' => ⟨rfl, Nat.le_add_right _ _, Nat.le_add_right _ _, C'.owi⟩)) (fun H1 hF1 hR1 => r_back (by omega) hF1 hR1 (fun g' h' => ⟨rfl, g', rfl, h'⟩))) ?_)
    rintro r1 H1 ⟨rfl, k1, g1, hc2⟩
    refine t_Law_law_499 (by rw [k1]) (by rw [k1]; exact u1) ?_
    rw [g1]
    refine CWP.mono hc2 ?_
    rintro r2 H2 ⟨rfl, g2, hL2, hn2, hs2⟩
    exact t_Law_law_508 (fun _ => go H2 _ hL2 hn2 hs2) (fun z => absurd rfl z)
  have p513 : wp d sc_Law_law 513 [vR 1, vR 19, vR 58, vI (nI i)] [] H Q := by
    refine t_Law_law_513 k4 v1 (CWP.mono (law_pair (σ' := (sp_show σ ((gi H 1 (nI i + 1).toNatClampNeg))).2) (y := some (vI (sp_show σ ((gi H 1 (nI i + 1).toNatClampNeg))).1)) (as2 := [vR 58, vI ((gi H 1 (nI i + 1).toNatClampNeg))]) (m2 := 168) hLI (by decide) (by decide) rl_1 (fun n => rr_1) (x_show (by omega) hK hC (fun g' C' => ⟨rfl, Nat.le_add_right _ _, Nat.le_add_right _ _, C'.owi⟩)) (fun H1 hF1 hR1 => r_show (by omega) hF1 hR1 (fun g' h' => ⟨rfl, g', rfl, h'⟩))) ?_)
    rintro r1 H1 ⟨rfl, k1, g1, hc2⟩
    refine t_Law_law_522 (by rw [k1]) (by rw [k1]; exact u1) ?_
    rw [g1]
    refine CWP.mono hc2 ?_
    rintro r2 H2 ⟨rfl, g2, hL2, hn2, hs2⟩
    exact t_Law_law_531 (fun _ => go H2 _ hL2 hn2 hs2) (fun z => absurd rfl z)
  have p536 : wp d sc_Law_law 536 [vR 1, vR 19, vR 58, vI (nI i)] [] H Q := by
    refine t_Law_law_536 k4 v1 (CWP.mono (law_pair (σ' := σ) (y := some (vI (sp_shown σ ((gi H 1 (nI i + 1).toNatClampNeg))))) (as2 := [vR 58, vI ((gi H 1 (nI i + 1).toNatClampNeg))]) (m2 := 169) hLI (by decide) (by decide) rl_1 (fun n => rr_1) (x_shown (by omega) hC ⟨rfl, Nat.le_add_right _ _, Nat.le_add_right _ _, hC⟩) (fun H1 hF1 hR1 => r_shown (by omega) hF1 hR1 ⟨rfl, _, rfl, hR1⟩)) ?_)
    rintro r1 H1 ⟨rfl, k1, g1, hc2⟩
    refine t_Law_law_545 (by rw [k1]) (by rw [k1]; exact u1) ?_
    rw [g1]
    refine CWP.mono hc2 ?_
    rintro r2 H2 ⟨rfl, g2, hL2, hn2, hs2⟩
    exact t_Law_law_554 (fun _ => go H2 _ hL2 hn2 hs2) (fun z => absurd rfl z)
  have p559 : wp d sc_Law_law 559 [vR 1, vR 19, vR 58, vI (nI i)] [] H Q := by
    refine t_Law_law_559 k4 v1 (CWP.mono (law_pair (σ' := (sp_cut σ ((gi H 1 (nI i + 1).toNatClampNeg))).2) (y := some (vI (sp_cut σ ((gi H 1 (nI i + 1).toNatClampNeg))).1)) (as2 := [vR 58, vI ((gi H 1 (nI i + 1).toNatClampNeg))]) (m2 := 170) hLI (by decide) (by decide) rl_1 (fun n => rr_1) (x_cut (by omega) hC (fun g' C' => ⟨rfl, Nat.le_add_right _ _, Nat.le_add_right _ _, C'.owi⟩)) (fun H1 hF1 hR1 => r_cut (by omega) hF1 hR1 (fun g' h' => ⟨rfl, g', rfl, h'⟩))) ?_)
    rintro r1 H1 ⟨rfl, k1, g1, hc2⟩
    refine t_Law_law_568 (by rw [k1]) (by rw [k1]; exact u1) ?_
    rw [g1]
    refine CWP.mono hc2 ?_
    rintro r2 H2 ⟨rfl, g2, hL2, hn2, hs2⟩
    exact t_Law_law_577 (fun _ => go H2 _ hL2 hn2 hs2) (fun z => absurd rfl z)
  have p582 : wp d sc_Law_law 582 [vR 1, vR 19, vR 58, vI (nI i)] [] H Q := by
    refine t_Law_law_582 k4 v1 (CWP.mono (law_pair (σ' := (sp_recover σ ((gi H 1 (nI i + 1).toNatClampNeg))).2) (y := some (vI (sp_recover σ ((gi H 1 (nI i + 1).toNatClampNeg))).1)) (as2 := [vR 58, vI ((gi H 1 (nI i + 1).toNatClampNeg))]) (m2 := 171) hLI (by decide) (by decide) rl_1 (fun n => rr_1) (x_recover (by omega) hC (fun H' g' n u C' => ⟨rfl, by show nx H' ≤ _; omega, by show su H' ≤ _; omega, C'.owi⟩)) (fun H1 hF1 hR1 => r_recover (by omega) hF1 hR1 (fun g' h' => ⟨rfl, g', rfl, h'⟩))) ?_)
    rintro r1 H1 ⟨rfl, k1, g1, hc2⟩
    refine t_Law_law_591 (by rw [k1]) (by rw [k1]; exact u1) ?_
    rw [g1]
    refine CWP.mono hc2 ?_
    rintro r2 H2 ⟨rfl, g2, hL2, hn2, hs2⟩
    exact t_Law_law_600 (fun _ => go H2 _ hL2 hn2 hs2) (fun z => absurd rfl z)
  have p230 : wp d sc_Law_law 230 [vR 1, vR 19, vR 58, vI (nI i)] [] H Q := by
    have e1 : gr H 19 1 = 20 := hF.r 19 1 20 rfl
    have e2 : gr H 58 1 = 60 := hF.r 58 1 60 rfl
    have c1 : gi H 20 2 = nI σ.2.1.length := hC.2.1.2.2.1
    have c2 : gi H 60 24 = nI σ.2.1.length := by
      obtain ⟨K, D, R, ct, wr, dw, cl, nb, pd, scr⟩ := σ
      exact hR.2.2.1.1
    exact t_Law_law_230 (by omega) (hF.c 19 30 rfl) (by rw [e1]; exact hF.c 20 28 rfl) (hF.c 58 31 rfl) (by rw [e2]; exact hF.c 60 1 rfl) (by rw [e2, hF.2.1 60 (1, 27) rfl]; exact vp_in_nI (n := 24) (by decide) (by decide)) (fun _ => go0) (fun z => absurd (by rw [e1, e2, c1, c2]) z)
  have p605 : wp d sc_Law_law 605 [vR 1, vR 19, vR 58, vI (nI i)] [] H Q := by
    have e1 : gr H 19 7 = 39 := hF.r 19 7 39 rfl
    have c1 : gi H 39 0 = gi H 58 13 := by
      have hr := hC.rst
      obtain ⟨K, D, R, ct, wr, dw, cl, nb, pd, scr⟩ := σ
      rw [hr.2.2.2.2.2.1.1]
      exact hR.2.2.2.2.2.1.symm
    exact t_Law_law_605 (by omega) (hF.c 19 30 rfl) (by rw [e1]; exact hF.c 39 20 rfl) (hF.c 58 31 rfl) (fun _ => go0) (fun z => absurd (by rw [e1, c1]) z)
  refine sw_all (P := fun p => wp d sc_Law_law p [vR 1, vR 19, vR 58, vI (nI i)] [] H Q) _ 618 (t_Law_law_618 go0) (fun p hp => ?_) j
  simp only [List.mem_cons, List.not_mem_nil, or_false] at hp
  rcases hp with rfl | rfl | rfl | rfl | rfl | rfl | rfl | rfl | rfl | rfl | rfl | rfl | rfl | rfl | rfl | rfl | rfl | rfl | rfl | rfl
  · exact p136
  · exact p161
  · exact p196
  · exact p219
  · exact p230
  · exact p243
  · exact p266
  · exact p299
  · exact p332
  · exact p355
  · exact p388
  · exact p411
  · exact p434
  · exact p467
  · exact p490
  · exact p513
  · exact p536
  · exact p559
  · exact p582
  · exact p605
theorem law_loop (hd : 16 ≤ d) (hL : L < 2 ^ 30) (k : ∀ H', nx H' ≤ 71 + 4 * (L / 3) → su H' ≤ 5944 + 90 * (L / 3) → Q (some (vI 1)) H') : ∀ (m q : Nat) (H : AH) (σ : SG), L ≤ 1 + 3 * q + 3 * m → (q = 0 ∨ 1 + 3 * q ≤ L) → LI L H σ → nx H ≤ 71 + 4 * q → su H ≤ 5944 + 90 * q →
    wp d sc_Law_law 28 [vR 1, vR 19, vR 58, vI (nI (1 + 3 * q))] [] H Q := by
  intro m
  induction m with
  | zero =>
    intro q H σ hm hq hLI hn hs
    have h1 := hLI.2.2.2.2.2.2
    have hend : Int32.ofNat (kd H 1).2 - 3 < nI (1 + 3 * q) := by rw [h1]; exact (end_iff (by omega) (by omega)).mpr (by omega)
    exact t_Law_law_28 (by rw [h1]) (fun z => absurd hend z) (fun _ => k H (by omega) (by omega)) (fun z => absurd hend z)
  | succ m ih =>
    intro q H σ hm hq hLI hn hs
    have h1 := hLI.2.2.2.2.2.2
    have hend : Int32.ofNat (kd H 1).2 - 3 < nI (1 + 3 * q) ↔ L < 1 + 3 * q + 3 := by rw [h1]; exact end_iff (by omega) (by omega)
    refine t_Law_law_28 (by rw [h1]) (fun z => ?_) (fun z => k H (by omega) (by omega)) (fun z => ?_)
    · rw [hend] at z
      rw [h1]
      exact vp_in_nI (by omega) (by omega)
    · rw [hend] at z
      have hop := fun j => law_op (Q := Q) (i := 1 + 3 * q) (j := j) hd hLI (by omega) (by omega) (fun H2 σ2 hL2 n2 s2 => by
        rw [show nI (1 + 3 * q) + 3 = nI (1 + 3 * (q + 1)) from nI_add (1 + 3 * q) 3]
        exact ih (q + 1) H2 σ2 (by omega) (Or.inr (by omega)) hL2 (by omega) (by omega))
      split
      · exact hop 20
      · exact hop _
end LAWB
