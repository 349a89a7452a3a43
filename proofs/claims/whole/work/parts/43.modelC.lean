/-! the reference: match -/
theorem drop_sp {α : Type} {l t : List α} {i : Nat} {a : α} (h : l.drop i = a :: t) : l[i]? = some a ∧ l.drop (i + 1) = t := by
  have h1 : (l.drop i)[0]? = some a := by rw [h]; rfl
  rw [List.getElem?_drop, Nat.add_zero] at h1
  refine ⟨h1, ?_⟩
  rw [← List.tail_drop, h]
  rfl
theorem pr_all : ∀ (m : Nat) (X Y : List Ln) (i j : Nat), i + m = X.length → Y.length ≤ j → ∀ q ∈ pr X Y i j, q = none := by
  intro m
  induction m with
  | zero => intro X Y i j h hj q hq; rw [pr_nil (by omega)] at hq; cases hq
  | succ m ih =>
    intro X Y i j h hj q hq
    rw [pr_end (by omega) hj] at hq
    rcases List.mem_cons.mp hq with rfl | hq
    · rfl
    · exact ih X Y (i + 1) j (by omega) hj q hq
section MODC
variable {d : Nat} {Q : Option AV → AH → Prop} {H : AH} {g : Nat → Nat → Int32} {x y f : Int32} {l l2 : Tx}
set_option maxHeartbeats 4000000 in
theorem l_tabJ (hd : 4 ≤ d) (hF : Fix H) (h : SL g x l) (h2 : SL g y l2) {i : Nat} (hi : i ≤ nLn l)
    (K : ∀ (g' : Nat → Nat → Int32) (u : AV), TBL (LN l) (LN l2) g' i 0 → (∀ a, a ≠ 63 → g' a = g a) → wp d sc_Model_match 18 [vR 58, vI x, vI y, vI f, vI (nI (nLn l)), vI (nI (nLn l2)), vI (nI i + -1), vI (dn 0), u] [] (wi H g') Q) :
    ∀ (k : Nat), k ≤ nLn l2 + 1 → ∀ (g1 : Nat → Nat → Int32) (u : AV), TBL (LN l) (LN l2) g1 i k → (∀ a, a ≠ 63 → g1 a = g a) → wp d sc_Model_match 27 [vR 58, vI x, vI y, vI f, vI (nI (nLn l)), vI (nI (nLn l2)), vI (nI i), vI (dn k), u] [] (wi H g1) Q := by
  have hle := h.le
  have hle2 := h2.le
  have hn := nLn_le l
  have hn2 := nLn_le l2
  have LX := LN_len l
  have LY := LN_len l2
  intro k
  induction k with
  | zero =>
    intro _ g1 u ht hfr
    have z := dn_0
    exact f_Model_match_27 hF (fun q => absurd z q) (fun q => absurd z q) (fun q => absurd z q) (fun q => absurd z q) (fun q => absurd z q) (fun q => absurd z q) (fun q => absurd z q) (fun _ => K g1 u ht hfr) (fun q => absurd z q) (fun q => absurd z q) (fun q => absurd z q) (fun q => absurd z q) (fun q => absurd z q) (fun q => absurd z q)
  | succ j ih =>
    intro hj g1 u ht hfr
    have hs1 := h.fr (hfr 59 (by decide)) (hfr 60 (by decide))
    have hs2 := h2.fr (hfr 59 (by decide)) (hfr 60 (by decide))
    have step : ∀ w : AV, wp d sc_Model_match 27 [vR 58, vI x, vI y, vI f, vI (nI (nLn l)), vI (nI (nLn l2)), vI (nI i), vI (nI j + -1), w] [] (wi H (sm_u2 g1 63 (42 * i + j) (nI (lc (LN l) (LN l2) i j)))) Q :=
      fun w => ih (by omega) _ w (ht.set (by omega) (by omega)) (fun a ha => by rw [u2_na ha]; exact hfr a ha)
    rw [dn_s]
    have e1 : (42 : Int32) * nI i + nI j = nI (42 * i + j) := nI_42 i j
    have e2 : (42 : Int32) * nI i + nI j + 1 = nI (42 * i + (j + 1)) := by rw [e1, nI_1]; rfl
    have e3 : (42 : Int32) * (nI i + 1) + nI j = nI (42 * (i + 1) + j) := by rw [nI_1, nI_42]
    have e4 : (42 : Int32) * (nI i + 1) + nI j + 1 = nI (42 * (i + 1) + (j + 1)) := by rw [e3, nI_1]; rfl
    have c1 : ((42 : Int32) * nI i + nI j).toNatClampNeg = 42 * i + j := by rw [e1, nI_clamp (by omega)]
    have c2 : ((42 : Int32) * nI i + nI j + 1).toNatClampNeg = 42 * i + (j + 1) := by rw [e2, nI_clamp (by omega)]
    have c3 : ((42 : Int32) * (nI i + 1) + nI j).toNatClampNeg = 42 * (i + 1) + j := by rw [e3, nI_clamp (by omega)]
    have c4 : ((42 : Int32) * (nI i + 1) + nI j + 1).toNatClampNeg = 42 * (i + 1) + (j + 1) := by rw [e4, nI_clamp (by omega)]
    have v1 : vp_in ((42 : Int32) * nI i + nI j) 1764 := by rw [e1]; exact vp_in_nI (by omega) (by decide)
    have z : ¬ nI j < 0 := nI_pos (by omega)
    have lb := lc_le (LN l) (LN l2)
    have p0 : ∀ q : Nat, q < 2 ^ 31 → (nI q ≤ 0 ↔ q = 0) := fun q hq => by
      have := nI_leI (a := q) (b := 0) hq (by decide)
      rw [nI_0] at this
      rw [this]; omega
    by_cases hin : i < nLn l
    · have hni : ¬ nI (nLn l) ≤ nI i := nI_ge hin (by omega)
      have v3 : vp_in ((42 : Int32) * (nI i + 1) + nI j) 1764 := by rw [e3]; exact vp_in_nI (by omega) (by decide)
      have t3 := ht.1 (i + 1) j (by omega) (by omega) (by omega)
      by_cases hjm : j < nLn l2
      · have hnj : ¬ nI (nLn l2) ≤ nI j := nI_ge hjm (by omega)
        have v2 : vp_in ((42 : Int32) * nI i + nI j + 1) 1764 := by rw [e2]; exact vp_in_nI (by omega) (by decide)
        have v4 : vp_in ((42 : Int32) * (nI i + 1) + nI j + 1) 1764 := by rw [e4]; exact vp_in_nI (by omega) (by decide)
        have t2 := ht.2 (j + 1) (Nat.le_refl _) (by omega)
        have t4 := ht.1 (i + 1) (j + 1) (by omega) (by omega) (by omega)
        have href := lc_ref (X := LN l) (Y := LN l2) (i := i) (j := j) (by omega) (by omega)
        have b1 := lb (i + 1) j
        have b2 := lb i (j + 1)
        have b3 := lb (i + 1) (j + 1)
        -- row 83, with the best so far
        have r83 : ∀ w : Nat, w < 2 ^ 31 → lc (LN l) (LN l2) i j = max (max w (lc (LN l) (LN l2) (i + 1) j)) (lc (LN l) (LN l2) i (j + 1)) → wp d sc_Model_match 83 [vR 58, vI x, vI y, vI f, vI (nI (nLn l)), vI (nI (nLn l2)), vI (nI i), vI (nI j), vI (nI w)] [] (wi H g1) Q := by
          intro w hw hmax
          refine f_Model_match_83 hF (fun q => absurd q hni) (fun q => absurd q hni) (fun q => absurd q hni) (fun q => absurd q hni) (fun _ => v3) (fun _ _ _ => v1) (fun _ _ _ => v2) (fun _ _ _ _ => v1) (fun _ _ _ _ => v1) (fun _ _ _ => v1) (fun _ _ _ => v2) (fun _ _ _ _ => v1) (fun _ _ _ _ => v1)
            (fun q => absurd q hni) (fun q => absurd q hni) (fun q => absurd q hni) (fun _ _ q => absurd q hnj) (fun _ q1 _ q2 => ?_) (fun _ q1 _ q2 => ?_) (fun _ _ q => absurd q hnj) (fun _ q1 _ q2 => ?_) (fun _ q1 _ q2 => ?_)
          · rw [c3, t3, nI_leI (by omega) hw] at q1
            rw [c2, t2, nI_leI (by omega) hw] at q2
            have := step (vI (nI w))
            rw [hmax, show max (max w (lc (LN l) (LN l2) (i + 1) j)) (lc (LN l) (LN l2) i (j + 1)) = w by omega] at this
            rw [c1]; exact this
          · rw [c3, t3, nI_leI (by omega) hw] at q1
            rw [c2, t2, nI_leI (by omega) hw] at q2
            rw [c1, c2, t2]
            have := step (vI (nI (lc (LN l) (LN l2) i (j + 1))))
            rw [hmax, show max (max w (lc (LN l) (LN l2) (i + 1) j)) (lc (LN l) (LN l2) i (j + 1)) = lc (LN l) (LN l2) i (j + 1) by omega] at this
            exact this
          · rw [c3, t3, nI_leI (by omega) hw] at q1
            rw [c2, t2, c3, t3, nI_leI (by omega) (by omega)] at q2
            rw [c1, c3, t3]
            have := step (vI (nI (lc (LN l) (LN l2) (i + 1) j)))
            rw [hmax, show max (max w (lc (LN l) (LN l2) (i + 1) j)) (lc (LN l) (LN l2) i (j + 1)) = lc (LN l) (LN l2) (i + 1) j by omega] at this
            exact this
          · rw [c3, t3, nI_leI (by omega) hw] at q1
            rw [c2, t2, c3, t3, nI_leI (by omega) (by omega)] at q2
            rw [c1, c2, t2]
            have := step (vI (nI (lc (LN l) (LN l2) i (j + 1))))
            rw [hmax, show max (max w (lc (LN l) (LN l2) (i + 1) j)) (lc (LN l) (LN l2) i (j + 1)) = lc (LN l) (LN l2) i (j + 1) by omega] at this
            exact this
        refine f_Model_match_27 hF (fun _ q => absurd q hni) (fun _ q => absurd q hni) (fun _ q => absurd q hni) (fun _ q => absurd q hni) (fun _ _ q => absurd q hnj) (fun _ _ q => absurd q hnj) (fun _ _ q => absurd q hnj) (fun q => absurd q z) (fun _ q => absurd q hni) (fun _ q => absurd q hni) (fun _ q => absurd q hni) (fun _ _ q => absurd q hnj) (fun _ _ q => absurd q hnj) (fun _ _ _ => ?_)
        refine c_equal hd hF hs1 hs2 hin hjm (fun r hr => ?_)
        rw [← LN_getD hin, ← LN_getD hjm] at hr
        refine f_Model_match_59 hF (fun _ => v4) (fun hr0 => ?_) (fun hr0 => ?_)
        · have hne : ¬ (LN l).getD i [] = (LN l2).getD j [] := by
            rcases hr with ⟨-, hr⟩ | ⟨hr, -⟩
            · rw [hr] at hr0; exact absurd hr0 (by decide)
            · exact hr
          rw [if_neg hne] at href
          exact r83 0 (by decide) href
        · have he : (LN l).getD i [] = (LN l2).getD j [] := by
            rcases hr with ⟨hr, -⟩ | ⟨-, hr⟩
            · exact hr
            · exact absurd hr hr0
          rw [if_pos he] at href
          rw [c4, t4, show (1 : Int32) + nI (lc (LN l) (LN l2) (i + 1) (j + 1)) = nI (lc (LN l) (LN l2) (i + 1) (j + 1) + 1) by rw [← nI_1, Int32.add_comm]]
          exact r83 _ (by omega) href
      · have hjm : j = nLn l2 := by omega
        have hnj : nI (nLn l2) ≤ nI j := nI_le (by omega) (by omega)
        have l0 : lc (LN l) (LN l2) i j = 0 := lc_n2 (by omega)
        have l1 : lc (LN l) (LN l2) (i + 1) j = 0 := lc_n2 (by omega)
        rw [l0] at step
        refine f_Model_match_27 hF (fun _ q => absurd q hni) (fun _ q => absurd q hni) (fun _ q => absurd q hni) (fun _ q => absurd q hni) (fun _ _ _ => v3) (fun _ _ _ _ => v1) (fun _ _ _ _ => v1) (fun q => absurd q z) (fun _ q => absurd q hni) (fun _ q => absurd q hni) (fun _ q => absurd q hni) (fun _ _ _ _ => ?_) (fun _ _ _ q => ?_) (fun _ _ q => absurd hnj q)
        · rw [c1]; exact step _
        · rw [c3, t3, l1] at q; exact absurd (by decide) q
    · have hni : nI (nLn l) ≤ nI i := nI_le (by omega) (by omega)
      have l0 : ∀ j2, lc (LN l) (LN l2) i j2 = 0 := fun j2 => lc_n1 (by omega)
      rw [l0] at step
      by_cases hjm : j < nLn l2
      · have hnj : ¬ nI (nLn l2) ≤ nI j := nI_ge hjm (by omega)
        have v2 : vp_in ((42 : Int32) * nI i + nI j + 1) 1764 := by rw [e2]; exact vp_in_nI (by omega) (by decide)
        have t2 := ht.2 (j + 1) (Nat.le_refl _) (by omega)
        rw [l0] at t2
        refine f_Model_match_27 hF (fun _ _ q => absurd q hnj) (fun _ _ _ => v2) (fun _ _ _ _ => v1) (fun _ _ _ _ => v1) (fun _ q => absurd hni q) (fun _ q => absurd hni q) (fun _ q => absurd hni q) (fun q => absurd q z) (fun _ _ q => absurd q hnj) (fun _ _ _ _ => ?_) (fun _ _ _ q => ?_) (fun _ q => absurd hni q) (fun _ q => absurd hni q) (fun _ q => absurd hni q)
        · rw [c1]; exact step _
        · rw [c2, t2] at q; exact absurd (by decide) q
      · have hnj : nI (nLn l2) ≤ nI j := nI_le (by omega) (by omega)
        refine f_Model_match_27 hF (fun _ _ _ => v1) (fun _ _ q => absurd hnj q) (fun _ _ q => absurd hnj q) (fun _ _ q => absurd hnj q) (fun _ q => absurd hni q) (fun _ q => absurd hni q) (fun _ q => absurd hni q) (fun q => absurd q z) (fun _ _ _ => ?_) (fun _ _ q => absurd hnj q) (fun _ _ q => absurd hnj q) (fun _ q => absurd hni q) (fun _ q => absurd hni q) (fun _ q => absurd hni q)
        rw [c1]; exact step _
/-- the whole table -/
def TBA (X Y : List Ln) (g : Nat → Nat → Int32) : Prop := ∀ i j, i ≤ X.length → j ≤ Y.length → g 63 (42 * i + j) = nI (lc X Y i j)
theorem l_tabI (hd : 4 ≤ d) (hF : Fix H) (h : SL g x l) (h2 : SL g y l2)
    (K : ∀ (g' : Nat → Nat → Int32) (u v : AV), TBA (LN l) (LN l2) g' → (∀ a, a ≠ 63 → g' a = g a) → wp d sc_Model_match 201 [vR 58, vI x, vI y, vI f, vI (nI (nLn l)), vI (nI (nLn l2)), vI 0, u, v] [] (wi H g') Q) :
    ∀ (k : Nat), k ≤ nLn l + 1 → ∀ (g1 : Nat → Nat → Int32) (u v : AV), (∀ i2 j2, k ≤ i2 → i2 ≤ nLn l → j2 ≤ nLn l2 → g1 63 (42 * i2 + j2) = nI (lc (LN l) (LN l2) i2 j2)) → (∀ a, a ≠ 63 → g1 a = g a) → wp d sc_Model_match 18 [vR 58, vI x, vI y, vI f, vI (nI (nLn l)), vI (nI (nLn l2)), vI (dn k), u, v] [] (wi H g1) Q := by
  have hle := h.le
  have hle2 := h2.le
  have hn := nLn_le l
  have hn2 := nLn_le l2
  have LX := LN_len l
  have LY := LN_len l2
  intro k
  induction k with
  | zero =>
    intro _ g1 u v ht hfr
    refine f_Model_match_18 hF (fun _ => K g1 u v (fun i j h1 h2 => ht i j (Nat.zero_le _) (by omega) (by omega)) hfr) (fun q => absurd dn_0 q)
  | succ i ih =>
    intro hi g1 u v ht hfr
    rw [dn_s]
    refine f_Model_match_18 hF (fun q => absurd q (nI_pos (by omega))) (fun _ => ?_)
    have hs1 := h.fr (hfr 59 (by decide)) (hfr 60 (by decide))
    have hs2 := h2.fr (hfr 59 (by decide)) (hfr 60 (by decide))
    have := l_tabJ (f := f) (Q := Q) hd hF hs1 hs2 (i := i) (by omega) (fun g' u' ht' hfr' => ih (by omega) g' (vI (dn 0)) u' (fun i2 j2 q1 q2 q3 => by
        by_cases e : i2 = i
        · subst e; exact ht'.2 j2 (Nat.zero_le _) (by omega)
        · exact ht'.1 i2 j2 (by omega) (by omega) (by omega)) (fun a ha => by rw [hfr' a ha]; exact hfr a ha)) (nLn l2 + 1) (Nat.le_refl _) g1 v ⟨fun i2 j2 q1 q2 q3 => ht i2 j2 (by omega) (by omega) (by omega), fun j2 q1 q2 => by omega⟩ (fun a _ => rfl)
    rw [dn_s] at this
    exact this
end MODC
