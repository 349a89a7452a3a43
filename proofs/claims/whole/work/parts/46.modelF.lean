/-! the reference: sizes -/
theorem nI_mod {a b : Nat} (ha : a < 2 ^ 31) (hb : b < 2 ^ 31) : nI a - nI a / nI b * nI b = nI (a % b) := by
  have h1 : nI a / nI b = nI (a / b) := (Int32.ofNat_div ha hb).symm
  rw [h1, nI_mul, nI_sub (Nat.div_mul_le_self a b)]
  congr 1
  have := Nat.mod_add_div a b
  rw [Nat.mul_comm] at this
  omega
/-- a revision or none, as the reference has it -/
def BF (g : Nat → Nat → Int32) (x : Int32) (bf : Option (Bool × Tx)) : Prop := (x = -1 ∧ bf = none) ∨ ∃ b e, x = nI b ∧ b ≤ 25 ∧ bf = some e ∧ g 62 b = zB e.1 ∧ SL g (nI b) e.2
theorem FN.bf {g : Nat → Nat → Int32} {R : List Rv} {p v : Nat} {r : Int32} (hR : RRv g R) (h : FN R p v r) : BF g r (if v = 0 then none else (pg R p)[v - 1]?) := by
  rcases h with ⟨k, e, rfl, h1, h2, h3⟩ | ⟨rfl, h⟩
  · have hk : k < R.length := (List.getElem?_eq_some_iff.mp h1).1
    have h24 := hR.1
    obtain ⟨a1, a2, a3, a4⟩ := hR.2.2 k _ h1
    exact Or.inr ⟨k, e, rfl, by omega, by rw [if_neg (by omega), h3], a2, a3⟩
  · refine Or.inl ⟨rfl, ?_⟩
    split
    · rfl
    · rw [List.getElem?_eq_none (by omega)]
def dlB (K n : Nat) (c : Bool × Tx) (bf : Option (Bool × Tx)) : Bool := !c.1 && !decide ((n - 1) % K = 0) && (match bf with
  | some e => !e.1
  | none => false)
def szP (K n : Nat) (c : Bool × Tx) (bf : Option (Bool × Tx)) : Nat := if dlB K n c bf = true then dsz ((bf.getD (true, [])).2) c.2 else c.2.length
theorem lnx_LN {l : Tx} {j : Nat} (h : j < nLn l) : (LN l)[j]? = some (lnx (tf l) l.length j) := LN_get h
section MODF
variable {d : Nat} {Q : Option AV → AH → Prop} {H : AH} {g : Nat → Nat → Int32} {x y : Int32} {l l2 : Tx} {R : List Rv} {p v K n : Nat}
theorem c_delta {s : Nat} {c : Bool × Tx} {bf : Option (Bool × Tx)} (hd : 1 ≤ d) (hF : Fix H) (hK : 1 ≤ K ∧ K ≤ 5) (hg : g 58 5 = nI K) (hs : s ≤ 25) (hc : g 62 s = zB c.1) (hn : 1 ≤ n ∧ n < 2 ^ 31) (hb : BF g x bf)
    (k : Q (some (vI (if dlB K n c bf = true then 1 else 0))) (wi H g)) : cwp d 131 [vR 58, vI (nI s), vI (nI n), vI x] (wi H g) Q := by
  have hsc : (nI s).toNatClampNeg = s := nI_clamp (by omega)
  have e1 : nI n - 1 = nI (n - 1) := by
    have := nI_sub1 (n - 1)
    rw [show n - 1 + 1 = n by omega] at this
    exact this
  have e2 : nI n - 1 - (nI n - 1) / g 58 5 * g 58 5 = nI ((n - 1) % K) := by rw [e1, hg, nI_mod (by omega) (by omega)]
  have hm : (n - 1) % K < 2 ^ 31 := Nat.lt_of_le_of_lt (Nat.mod_le _ _) (by omega)
  have e3 : nI ((n - 1) % K) = 0 ↔ (n - 1) % K = 0 := by rw [← nI_0, nI_eq hm (by decide)]
  have hz : ∀ b : Bool, zB b = 0 ↔ b = false := fun b => zB_0
  refine e_Model_delta hd (hF.c 58 31 rfl) (f_Model_delta_0 hF (vp_in_nI (by omega) (by decide)) (fun _ => by rw [hg]; exact nI_ne0 (by omega) (by omega)) (fun _ _ q => ?_) (fun q => ?_) (fun q1 q2 => ?_) (fun q1 q2 q3 => ?_) (fun q1 q2 q3 q4 => ?_) (fun q1 q2 q3 q4 => ?_))
  · rcases hb with ⟨rfl, -⟩ | ⟨b, e, rfl, h1, -⟩
    · exact absurd (by decide) q
    · exact vp_in_nI (by omega) (by decide)
  · rw [hsc, hc, zB_0] at q
    rw [show dlB K n c bf = false by simp [dlB, q]] at k
    exact k
  · rw [e2, e3] at q2
    rw [show dlB K n c bf = false by simp [dlB, q2]] at k
    exact k
  · rcases hb with ⟨rfl, rfl⟩ | ⟨b, e, rfl, h1, -⟩
    · rw [show dlB K n c none = false by simp [dlB]] at k
      exact k
    · exact absurd q3 (nI_pos (by omega))
  · rcases hb with ⟨rfl, rfl⟩ | ⟨b, e, rfl, h1, rfl, h2, h3⟩
    · exact absurd (by decide) q3
    · rw [nI_clamp (by omega), h2, zB_0] at q4
      rw [show dlB K n c (some e) = false by simp [dlB, q4]] at k
      exact k
  · rcases hb with ⟨rfl, rfl⟩ | ⟨b, e, rfl, h1, rfl, h2, h3⟩
    · exact absurd (by decide) q3
    · rw [hsc, hc, zB_0] at q1
      rw [e2, e3] at q2
      rw [nI_clamp (by omega), h2, zB_0] at q4
      rw [show dlB K n c (some e) = true by simp [dlB, q1, q2, q4]] at k
      exact k
/-- lines from j to before t are summed up -/
theorem lm_sum {x2 x3 : Int32} {i t : Nat} {x7 : Int32} (hd : 3 ≤ d) (hF : Fix H) (h : SL g x l) (ht : t ≤ nLn l) (s0 : Nat)
    (k : wp d sc_Model_sizeOf 47 [vR 58, vI x, vI x2, vI x3, vI (nI s0), vI (nI i), vI (nI t), vI x7, vI (nI (nLn l)), vI (nI t)] [] (wi H g) Q) :
    ∀ (m j : Nat), j + m = t → ∀ s1, s1 + lsp (LN l) j t = s0 → wp d sc_Model_sizeOf 136 [vR 58, vI x, vI x2, vI x3, vI (nI s1), vI (nI i), vI (nI j), vI x7, vI (nI (nLn l)), vI (nI t)] [] (wi H g) Q := by
  have hle := h.le
  have hn := nLn_le l
  intro m
  induction m with
  | zero =>
    intro j hj s1 hs
    have e : j = t := by omega
    subst e
    rw [lsp_0] at hs
    refine f_Model_sizeOf_136 hF (fun _ => ?_) (fun q => absurd (nI_le (Nat.le_refl _) (by omega)) q)
    rw [show s1 = s0 by omega]
    exact k
  | succ m ih =>
    intro j hj s1 hs
    have hjl : j < nLn l := by omega
    obtain ⟨e1, e2, -⟩ := eLn_spec hjl
    refine f_Model_sizeOf_136 hF (fun q => absurd q (nI_ge (by omega) (by omega))) (fun _ => c_stop hd hF h hjl ?_)
    refine f_Model_sizeOf_152 hF (c_start (by omega) hF h hjl ?_)
    refine f_Model_sizeOf_159 hF ?_
    rw [nI_sub e1, nI_1, nI_add, nI_1]
    refine ih (j + 1) (by omega) _ ?_
    have hl : lsp (LN l) j t = (eLn l j - sLn l j + 1) + lsp (LN l) (j + 1) t := by
      have hlen : (lnx (tf l) l.length j).length = eLn l j - sLn l j := lnx_len _ _ _
      unfold lsp
      rw [drop_q (lnx_LN hjl), show t - j = (t - (j + 1)) + 1 by omega, List.take_succ_cons, List.map_cons, List.sum_cons, hlen]
    omega
/-- lines of the elder text without a partner are passed over -/
theorem lm_skip {x2 : Int32} (hd : 3 ≤ d) (hF : Fix H) (h : SL g x l) (hy : nLn l2 ≤ 41) (hw : ∀ i, i < nLn l2 → g 64 i = ptr (PR (LN l2) (LN l)) i) {T : Nat} (i0 j s1 : Nat) (hj : j ≤ nLn l)
    (k : ∀ (i j' s1 : Nat) (u : AV), i0 ≤ i → j ≤ j' → i ≤ nLn l2 → j' ≤ nLn l → s1 + dl (LN l) ((PR (LN l2) (LN l)).drop i) false j' = T → (∀ i2 q, i ≤ i2 → (PR (LN l2) (LN l))[i2]? = some (some q) → j' ≤ q) → (i = nLn l2 → j' = nLn l) → (∀ q, (PR (LN l2) (LN l))[i]? = some (some q) → j' = q) → (i < nLn l2 → ∃ q, (PR (LN l2) (LN l))[i]? = some (some q)) → wp d sc_Model_sizeOf 47 [vR 58, vI x, vI x2, vI y, vI (nI s1), vI (nI i), vI (nI j'), vI (nI (nLn l2)), vI (nI (nLn l)), u] [] (wi H g) Q) :
    ∀ (m i : Nat), i0 ≤ i → i + m = nLn l2 → s1 + dl (LN l) ((PR (LN l2) (LN l)).drop i) true j = T → (∀ i2 q, i ≤ i2 → (PR (LN l2) (LN l))[i2]? = some (some q) → j ≤ q) →
    ∀ u : AV, wp d sc_Model_sizeOf 92 [vR 58, vI x, vI x2, vI y, vI (nI (s1 + 3)), vI (nI i), vI (nI j), vI (nI (nLn l2)), vI (nI (nLn l)), u] [] (wi H g) Q := by
  have hle := h.le
  have hn := nLn_le l
  have LX := LN_len l2
  have LY := LN_len l
  have PL := PR_len (LN l2) (LN l)
  have some_case : ∀ (i q : Nat), i0 ≤ i → i < nLn l2 → (PR (LN l2) (LN l))[i]? = some (some q) → s1 + dl (LN l) ((PR (LN l2) (LN l)).drop i) true j = T → (∀ i2 q, i ≤ i2 → (PR (LN l2) (LN l))[i2]? = some (some q) → j ≤ q) → ∀ u : AV, wp d sc_Model_sizeOf 92 [vR 58, vI x, vI x2, vI y, vI (nI (s1 + 3)), vI (nI i), vI (nI j), vI (nI (nLn l2)), vI (nI (nLn l)), u] [] (wi H g) Q := by
    intro i q h0 hi hq hT hmon u
    obtain ⟨o1, o2, o3⟩ := PR_ok hq
    have hc : (nI i).toNatClampNeg = i := nI_clamp (by omega)
    have hg : g 64 i = nI q := by rw [hw i hi, ptr_some hq]
    refine f_Model_sizeOf_92 hF (fun _ => vp_in_nI (by omega) (by decide)) (fun z => absurd z (nI_ge hi (by omega))) (fun _ _ => ?_) (fun _ z => absurd (by rw [hc, hg]; exact nI_pos' (by omega)) z)
    rw [hc, hg]
    have hjq := hmon i q (Nat.le_refl _) hq
    rw [dl_some hq, if_pos (Or.inl rfl)] at hT
    refine lm_sum (t := q) hd hF h (by omega) (s1 + 3 + lsp (LN l) j q) ?_ (q - j) j (by omega) (s1 + 3) rfl
    refine k i q _ _ h0 hjq (by omega) (by omega) ?_ (fun i2 q2 h1 h2 => ?_) (fun e => by omega) (fun q2 h2 => by rw [hq] at h2; cases h2; rfl) (fun _ => ⟨q, hq⟩)
    · rw [dl_some hq, if_neg (by simp), Nat.zero_add]
      omega
    · by_cases e : i2 = i
      · subst e; rw [hq] at h2; cases h2; exact Nat.le_refl _
      · exact Nat.le_of_lt (o3 i2 q2 (by omega) h2)
  intro m
  induction m with
  | zero =>
    intro i h0 hi hT hmon u
    have hie : i = nLn l2 := by omega
    refine f_Model_sizeOf_92 hF (fun z => absurd (nI_le (by omega) (by omega)) z) (fun _ => ?_) (fun z => absurd (nI_le (by omega) (by omega)) z) (fun z => absurd (nI_le (by omega) (by omega)) z)
    rw [dl_nil (by omega), if_pos (Or.inl rfl)] at hT
    refine lm_sum (t := nLn l) hd hF h (Nat.le_refl _) (s1 + 3 + lsp (LN l) j (nLn l)) ?_ (nLn l - j) j (by omega) (s1 + 3) rfl
    refine k i (nLn l) _ _ h0 hj (by omega) (Nat.le_refl _) ?_ (fun i2 q2 h1 h2 => ?_) (fun _ => rfl) (fun q2 h2 => ?_) (fun z => by omega)
    · rw [dl_nil (by omega), if_neg (by rw [LY]; simp)]
      rw [LY] at hT
      omega
    · have := (List.getElem?_eq_some_iff.mp h2).1; omega
    · have := (List.getElem?_eq_some_iff.mp h2).1; omega
  | succ m ih =>
    intro i h0 hi hT hmon u
    have hil : i < nLn l2 := by omega
    rcases ps_get (ps := PR (LN l2) (LN l)) (i := i) (by omega) with hq | ⟨q, hq⟩
    · have hc : (nI i).toNatClampNeg = i := nI_clamp (by omega)
      have hg : g 64 i = -1 := by rw [hw i hil, ptr_none hq]
      refine f_Model_sizeOf_92 hF (fun _ => vp_in_nI (by omega) (by decide)) (fun z => absurd z (nI_ge hil (by omega))) (fun _ z => absurd z (by rw [hc, hg]; decide)) (fun _ _ => ?_)
      rw [nI_1]
      exact ih (i + 1) (by omega) (by omega) (by rw [dl_none hq] at hT; exact hT) (fun i2 q2 h1 h2 => hmon i2 q2 (by omega) h2) u
    · exact some_case i q h0 hil hq hT hmon u
theorem lm_hunks {x2 : Int32} (hd : 3 ≤ d) (hF : Fix H) (h : SL g x l) (hy : nLn l2 ≤ 41) (hw : ∀ i, i < nLn l2 → g 64 i = ptr (PR (LN l2) (LN l)) i) {T : Nat} (k : Q (some (vI (nI T))) (wi H g)) :
    ∀ (m i j s1 : Nat) (u : AV), (nLn l2 - i) + (nLn l - j) ≤ m → i ≤ nLn l2 → j ≤ nLn l → s1 + dl (LN l) ((PR (LN l2) (LN l)).drop i) false j = T → (∀ i2 q, i ≤ i2 → (PR (LN l2) (LN l))[i2]? = some (some q) → j ≤ q) →
    wp d sc_Model_sizeOf 47 [vR 58, vI x, vI x2, vI y, vI (nI s1), vI (nI i), vI (nI j), vI (nI (nLn l2)), vI (nI (nLn l)), u] [] (wi H g) Q := by
  have hle := h.le
  have hn := nLn_le l
  have LX := LN_len l2
  have LY := LN_len l
  have PL := PR_len (LN l2) (LN l)
  intro m
  induction m with
  | zero =>
    intro i j s1 u hm hi hj hT hmon
    have z1 : ¬ nI i < nI (nLn l2) := nI_nlt (by omega) (by omega)
    have z2 : nI (nLn l) ≤ nI j := nI_le (by omega) (by omega)
    refine f_Model_sizeOf_47 hF (fun z => absurd z z1) (fun _ z => absurd z2 z) (fun z => absurd z z1) (fun z => absurd z z1) (fun z => absurd z z1) (fun _ _ => ?_) (fun _ z => absurd z2 z) (fun _ z => absurd z2 z) (fun _ z => absurd z2 z)
    rw [dl_nil (by omega), if_neg (by rw [LY]; simp; omega)] at hT
    rw [show s1 = T by omega]
    exact k
  | succ m ih =>
    intro i j s1 u hm hi hj hT hmon
    have big : (i < nLn l2 → ¬ (PR (LN l2) (LN l))[i]? = some (some j)) → (i = nLn l2 → j < nLn l) → ∀ u : AV, wp d sc_Model_sizeOf 92 [vR 58, vI x, vI x2, vI y, vI (nI (s1 + 3)), vI (nI i), vI (nI j), vI (nI (nLn l2)), vI (nI (nLn l)), u] [] (wi H g) Q := by
      intro b1 b2 u
      refine lm_skip hd hF h hy hw (T := T) i j s1 hj (fun i' j' s' u' a8 a9 a1 a2 a3 a4 a5 a6 a7 => ?_) (nLn l2 - i) i (Nat.le_refl _) (by omega) ?_ hmon u
      · refine ih i' j' s' u' ?_ a1 a2 a3 a4
        have : ¬ (i' = i ∧ j' = j) := by
          rintro ⟨rfl, rfl⟩
          by_cases e : i' = nLn l2
          · have := a5 e; have := b2 e; omega
          · obtain ⟨q, hq⟩ := a7 (by omega)
            have e2 := a6 q hq
            subst e2
            exact b1 (by omega) hq
        omega
      · by_cases e : i = nLn l2
        · rw [dl_nil (by omega)] at hT ⊢
          rw [if_pos (Or.inr (by rw [LY]; exact b2 e))] at hT
          rw [if_pos (Or.inl rfl)]
          exact hT
        · rcases ps_get (ps := PR (LN l2) (LN l)) (i := i) (by omega) with hq | ⟨q, hq⟩
          · rw [dl_none hq] at hT ⊢
            exact hT
          · have hjq := hmon i q (Nat.le_refl _) hq
            have hne : j ≠ q := fun e2 => b1 (by omega) (by rw [hq, e2])
            rw [dl_some hq] at hT ⊢
            rw [if_pos (Or.inr (by omega))] at hT
            rw [if_pos (Or.inl rfl)]
            exact hT
    have e3 : nI s1 + 3 = nI (s1 + 3) := nI_add s1 3
    by_cases hil : i < nLn l2
    · have z1 : nI i < nI (nLn l2) := nI_lt hil (by omega)
      have z2 : ¬ nI (nLn l2) ≤ nI i := nI_ge hil (by omega)
      have hc : (nI i).toNatClampNeg = i := nI_clamp (by omega)
      have hwi := hw i hil
      refine f_Model_sizeOf_47 hF (fun _ _ => vp_in_nI (by omega) (by decide)) (fun z => absurd z1 z) (fun _ z => absurd z z2) (fun _ _ z => ?_) (fun _ _ z => ?_) (fun z => absurd z1 z) (fun z => absurd z1 z) (fun z => absurd z1 z) (fun z => absurd z1 z)
      · rw [e3]
        refine big (fun _ hq => z ?_) (fun e => by omega) u
        rw [hc, hwi, ptr_some hq]
      · rw [hc, hwi] at z
        rcases ps_get (ps := PR (LN l2) (LN l)) (i := i) (by omega) with hq | ⟨q, hq⟩
        · rw [ptr_none hq] at z
          have := nI_pos' (n := j) (by omega)
          rw [← z] at this
          exact absurd this (by decide)
        · obtain ⟨o1, o2, o3⟩ := PR_ok hq
          rw [ptr_some hq, nI_eq (by omega) (by omega)] at z
          subst z
          rw [nI_1, nI_1]
          refine ih (i + 1) (q + 1) s1 u (by omega) (by omega) (by omega) ?_ (fun i2 q2 h1 h2 => o3 i2 q2 (by omega) h2)
          rw [dl_some hq, if_neg (by simp), Nat.zero_add] at hT
          exact hT
    · have hie : i = nLn l2 := by omega
      have z1 : ¬ nI i < nI (nLn l2) := nI_nlt (by omega) (by omega)
      have z2 : nI (nLn l2) ≤ nI i := nI_le (by omega) (by omega)
      by_cases hjl : j < nLn l
      · have z3 : ¬ nI (nLn l) ≤ nI j := nI_ge hjl (by omega)
        refine f_Model_sizeOf_47 hF (fun z => absurd z z1) (fun _ _ z => absurd z2 z) (fun z => absurd z z1) (fun z => absurd z z1) (fun z => absurd z z1) (fun _ z => absurd z z3) (fun _ _ _ => ?_) (fun _ _ z => absurd z2 z) (fun _ _ z => absurd z2 z)
        rw [e3]
        exact big (fun z => by omega) (fun _ => hjl) u
      · have z3 : nI (nLn l) ≤ nI j := nI_le (by omega) (by omega)
        refine f_Model_sizeOf_47 hF (fun z => absurd z z1) (fun _ z => absurd z3 z) (fun z => absurd z z1) (fun z => absurd z z1) (fun z => absurd z z1) (fun _ _ => ?_) (fun _ z => absurd z3 z) (fun _ z => absurd z3 z) (fun _ z => absurd z3 z)
        rw [dl_nil (by omega), if_neg (by rw [LY]; simp; omega)] at hT
        rw [show s1 = T by omega]
        exact k
theorem c_sizeOf {s : Nat} {c : Bool × Tx} {bf : Option (Bool × Tx)} (hd : 6 ≤ d) (hF : Fix H) (hK : 1 ≤ K ∧ K ≤ 5) (hg : g 58 5 = nI K) (hs : s ≤ 25) (hc : g 62 s = zB c.1) (hc2 : SL g (nI s) c.2) (hn : 1 ≤ n ∧ n < 2 ^ 31) (hb : BF g x bf)
    (k : ∀ g' : Nat → Nat → Int32, (∀ a, a ≠ 63 → a ≠ 64 → g' a = g a) → Q (some (vI (nI (szP K n c bf)))) (wi H g')) : cwp d 132 [vR 58, vI (nI s), vI (nI n), vI x] (wi H g) Q := by
  have hsc : (nI s).toNatClampNeg = s := nI_clamp (by omega)
  refine e_Model_sizeOf (by omega) (hF.c 58 31 rfl) (f_Model_sizeOf_0 hF (c_delta (by omega) hF hK hg hs hc hn hb ?_))
  by_cases hdl : dlB K n c bf = true
  · rw [if_pos hdl]
    refine f_Model_sizeOf_7 hF (fun z => absurd z (by decide)) (fun _ => ?_) (fun z => absurd z (by decide))
    obtain ⟨b, e, rfl, h1, rfl, h2, h3⟩ : ∃ b e, x = nI b ∧ b ≤ 25 ∧ bf = some e ∧ g 62 b = zB e.1 ∧ SL g (nI b) e.2 := by
      rcases hb with ⟨-, rfl⟩ | h
      · simp [dlB] at hdl
      · exact h
    have hle := h3.le
    have hle2 := hc2.le
    have hn1 := nLn_le e.2
    have hn2 := nLn_le c.2
    refine c_match (f := 1) (by omega) hF h3 hc2 (fun g' hw hfr => ?_)
    have hs1 := h3.fr (hfr 59 (by decide) (by decide)) (hfr 60 (by decide) (by decide))
    have hs2 := hc2.fr (hfr 59 (by decide) (by decide)) (hfr 60 (by decide) (by decide))
    refine f_Model_sizeOf_24 hF (c_lines (by omega) hF hs1 ?_)
    refine f_Model_sizeOf_38 hF (c_lines (by omega) hF hs2 ?_)
    refine f_Model_sizeOf_45 hF ?_
    have hk := k g' (fun a q1 q2 => hfr a q2 q1)
    rw [show szP K n c (some e) = dsz e.2 c.2 by unfold szP; rw [if_pos hdl]; rfl] at hk
    exact lm_hunks (l := c.2) (l2 := e.2) (T := dsz e.2 c.2) (by omega) hF hs2 (by omega) hw hk _ 0 0 0 _ (Nat.le_refl _) (Nat.zero_le _) (Nat.zero_le _) (Nat.zero_add _) (fun i2 q _ _ => Nat.zero_le _)
  · rw [if_neg hdl]
    refine f_Model_sizeOf_7 hF (fun _ => vp_in_nI (by omega) (by decide)) (fun z => absurd rfl z) (fun _ => ?_)
    have hk := k g (fun a _ _ => rfl)
    rw [show szP K n c bf = c.2.length by unfold szP; rw [if_neg hdl]] at hk
    rcases hc2 with ⟨h1, -⟩ | ⟨s', h1, h2, h3, -⟩
    · have := nI_pos' (n := s) (by omega)
      rw [h1] at this
      exact absurd this (by decide)
    · have : s = s' := (nI_eq (by omega) (by omega)).mp h2
      subst this
      rw [hsc, h3]
      exact hk
end MODF
