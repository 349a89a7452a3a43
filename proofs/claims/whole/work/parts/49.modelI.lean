/-! the state, and the reference's calls that make revisions -/
/-- K, draft, revisions, cut, written, down, closed, blocks, what is under way, what is shown -/
abbrev SG : Type := Nat × Tx × List Rv × Int32 × Int32 × Bool × Bool × Nat × Rv × Tx
def RI (g : Nat → Nat → Int32) : SG → Prop
  | (K, D, R, ct, wr, dw, cl, nb, pd, scr) => (1 ≤ K ∧ K ≤ 5) ∧ g 58 5 = nI K ∧ ST g 24 D ∧ RRv g R ∧ g 58 10 = ct ∧ g 58 13 = wr ∧ g 58 9 = zB dw ∧
    (dw = true → g 58 12 = zB cl ∧ g 58 11 = nI nb ∧ nb < 2 ^ 20 ∧ ST g 25 pd.2.2 ∧ g 61 25 = nI pd.1 ∧ g 62 25 = zB pd.2.1 ∧ pd.1 < 6 ∧ R.length < 24) ∧ (scr.length ≤ 200 ∧ g 58 21 = nI scr.length ∧ ∀ j, j < scr.length → g 70 j = tf scr j)
theorem nar_z (b : Bool) : vp_nar .boolean (zB b) = zB b := by cases b <;> decide
theorem nI_div {a b : Nat} (ha : a < 2 ^ 31) (hb : b < 2 ^ 31) : nI a / nI b = nI (a / b) := (Int32.ofNat_div ha hb).symm
theorem LN_lall (l : Tx) : lall (LN l) ≤ (l.length + 1) * (l.length + 1) := by
  have h : ∀ (X : List Ln) (m : Nat), (∀ x ∈ X, x.length ≤ m) → lall X ≤ X.length * (m + 1) := by
    intro X
    induction X with
    | nil => intro m _; simp [lall]
    | cons x X ih =>
      intro m hm
      have h1 := ih m (fun z hz => hm z (List.mem_cons_of_mem _ hz))
      have h2 := hm x List.mem_cons_self
      unfold lall at h1 ⊢
      simp only [List.map_cons, List.sum_cons, List.length_cons]
      rw [Nat.add_mul]
      omega
  have h1 := h (LN l) l.length (fun x hx => by
    obtain ⟨i, hi⟩ := List.mem_iff_getElem?.mp hx
    have hl : i < nLn l := by rw [← LN_len]; exact (List.getElem?_eq_some_iff.mp hi).1
    rw [LN_get hl] at hi
    cases hi
    rw [lnx_len]
    have := (eLn_spec hl).2.1
    unfold eLn at this
    omega)
  rw [LN_len] at h1
  exact Nat.le_trans h1 (Nat.mul_le_mul_right _ (nLn_le l))
theorem dsz_le {A B : Tx} (hA : A.length ≤ 40) (hB : B.length ≤ 40) : dsz A B ≤ 100000 := by
  unfold dsz
  have h1 := dl_le (LN B) (prt (LN A) (LN B) 0) false 0
  have h2 : (prt (LN A) (LN B) 0).length = nLn A := by rw [prt_len _ _ _ _ (Nat.le_refl _), LN_len]
  have h3 := LN_lall B
  have h4 := nLn_le A
  have h5 : (B.length + 1) * (B.length + 1) ≤ 41 * 41 := Nat.mul_le_mul (by omega) (by omega)
  rw [h2] at h1
  refine Nat.le_trans h1 (Nat.le_trans (Nat.mul_le_mul (show 3 + lall (LN B) ≤ 1684 by omega) (show nLn A + 1 ≤ 42 by omega)) (by decide))
theorem szP_le {K n : Nat} {c : Bool × Tx} {bf : Option (Bool × Tx)} (hc : c.2.length ≤ 40) (hb : ∀ e, bf = some e → e.2.length ≤ 40) : szP K n c bf ≤ 100000 := by
  unfold szP
  split
  · refine dsz_le ?_ hc
    cases bf with
    | none => exact Nat.zero_le _
    | some e => exact hb e rfl
  · omega
/-- a revision is made: its size, its writes -/
def nbk (K : Nat) (R : List Rv) (rv : Rv) : Nat := (szP K ((pg R rv.1).length + 1) rv.2 (pv (pg R rv.1) ((pg R rv.1).length + 1)) + 7) / 8
def sp_make (σ : SG) (rv : Rv) : Int32 × SG := match σ with
  | (K, D, R, ct, wr, dw, cl, nb, pd, scr) =>
    if ¬ ct < 0 ∧ ct < nI (2 * nbk K R rv + 2) then (-5, K, D, R, -1, wr + ct, true, decide (nI (nbk K R rv) < ct), nbk K R rv, rv, scr)
    else (nI ((pg R rv.1).length + 1), K, D, R ++ [rv], -1, wr + nI (2 * nbk K R rv + 2), dw, cl, nb, pd, scr)
section MODI
variable {d : Nat} {Q : Option AV → AH → Prop} {H : AH} {g : Nat → Nat → Int32} {x y : Int32} {l l2 : Tx} {R : List Rv} {p v K n : Nat}
theorem c_enter {rv : Rv} (hd : 3 ≤ d) (hF : Fix H) (h : RRv g R) (hlt : R.length < 24) (h25 : ST g 25 rv.2.2) (hp : g 61 25 = nI rv.1) (hp6 : rv.1 < 6) (hz : g 62 25 = zB rv.2.1)
    (k : ∀ g', RRv g' (R ++ [rv]) → (∀ s l', 24 ≤ s → ST g s l' → ST g' s l') → (∀ a, a ≠ 59 → a ≠ 60 → a ≠ 61 → a ≠ 62 → a ≠ 58 → g' a = g a) → (∀ j, j ≠ 2 → g' 58 j = g 58 j) → Q none (wi H g')) : cwp d 136 [vR 58] (wi H g) Q := by
  have hs := h25.sl (by decide)
  refine e_Model_enter (by omega) (hF.c 58 31 rfl) (f_Model_enter_0 hF ?_)
  rw [h.2.1]
  refine c_copy (x := nI 25) (t := R.length) (by omega) hF hs (by omega) (fun e => ?_) (fun g1 ho hst => ?_)
  · have := (nI_eq (by decide) (by omega)).mp e; omega
  have o58 := ho.1 58 (by decide) (by decide)
  have o61 := ho.1 61 (by decide) (by decide)
  have o62 := ho.1 62 (by decide) (by decide)
  have hm : g1 58 2 = nI R.length := by rw [o58]; exact h.2.1
  have hc : (g1 58 2).toNatClampNeg = R.length := by rw [hm, nI_clamp (by omega)]
  refine f_Model_enter_10 hF (by rw [hm]; exact vp_in_nI (by omega) (by decide)) ?_
  rw [hc, o62, hz, nar_z, o61, hp, hm, nI_1]
  refine k _ ⟨by simp; omega, ?_, fun i r hr => ?_⟩ (fun s l' hs24 hsl => ?_) (fun a a1 a2 a3 a4 a5 => ?_) (fun j hj => ?_)
  · rw [u2_self]; simp
  · have hil : i < R.length + 1 := by have := (List.getElem?_eq_some_iff.mp hr).1; simpa using this
    by_cases e : i = R.length
    · subst e
      rw [List.getElem?_append_right (Nat.le_refl _), Nat.sub_self] at hr
      cases hr
      refine ⟨?_, ?_, ?_, hp6⟩
      · rw [u2_ne (Or.inl (by decide)), u2_self]
      · rw [u2_ne (Or.inl (by decide)), u2_ne (Or.inl (by decide)), u2_self]
      · refine ST.sl ⟨?_, hst.2.1, fun j hj => ?_⟩ (by omega)
        · rw [u2_ne (Or.inl (by decide)), u2_ne (Or.inl (by decide)), u2_ne (Or.inl (by decide))]; exact hst.1
        · rw [u2_ne (Or.inl (by decide)), u2_ne (Or.inl (by decide)), u2_ne (Or.inl (by decide))]; exact hst.2.2 j hj
    · rw [List.getElem?_append_left (by omega)] at hr
      obtain ⟨a1, a2, a3, a4⟩ := h.2.2 i r hr
      refine ⟨?_, ?_, ?_, a4⟩
      · rw [u2_ne (Or.inl (by decide)), u2_ne (Or.inr e), u2_ne (Or.inl (by decide)), o61]; exact a1
      · rw [u2_ne (Or.inl (by decide)), u2_ne (Or.inl (by decide)), u2_ne (Or.inr e), o62]; exact a2
      · refine (a3.oth ho (fun z => e ((nI_eq (by omega) (by omega)).mp z))).fr ?_ ?_
        · rw [u2_na (by decide), u2_na (by decide), u2_na (by decide)]
        · rw [u2_na (by decide), u2_na (by decide), u2_na (by decide)]
  · have h1 := hsl.oth ho (by omega)
    exact ⟨by rw [u2_ne (Or.inl (by decide)), u2_ne (Or.inl (by decide)), u2_ne (Or.inl (by decide))]; exact h1.1, h1.2.1, fun j hj => by rw [u2_ne (Or.inl (by decide)), u2_ne (Or.inl (by decide)), u2_ne (Or.inl (by decide))]; exact h1.2.2 j hj⟩
  · rw [u2_na a5, u2_na a3, u2_na a4]
    exact ho.1 a a1 a2
  · rw [u2_ne (Or.inr hj), u2_ne (Or.inl (by decide)), u2_ne (Or.inl (by decide)), o58]
theorem c_make {σ : SG} {gz : Bool} (hd : 7 ≤ d) (hF : Fix H) (h : RI g σ) (hp : p < 6) (hdn : g 58 9 = 0) (hlt : σ.2.2.1.length < 24) (hx : SL g x l) (hx25 : x ≠ nI 25) (hgz : gz = true → l = [])
    (k : ∀ g', RI g' (sp_make σ (p, gz, l)).2 → Q (some (vI (sp_make σ (p, gz, l)).1)) (wi H g')) : cwp d 135 [vR 58, vI (nI p), vI x, vI (zB gz)] (wi H g) Q := by
  obtain ⟨K, D, R, ct, wr, dw, cl, nb, pd, scr⟩ := σ
  obtain ⟨hK, gK, gD, hR, hct, hwr, hdw, hpd, hsc, hs2, hs3⟩ := h
  have hlt : R.length < 24 := hlt
  have hdwf : dw = false := zB_0.mp (by rw [← hdw]; exact hdn)
  have hle := hx.le
  have hpl := pg_le R p
  refine e_Model_make (by omega) (hF.c 58 31 rfl) (f_Model_make_0 hF (c_copy (t := 25) (by omega) hF hx (by decide) hx25 (fun g1 ho hst => ?_)))
  -- slot 25 now shows the text, page and flag
  have key : ∀ g2 : Nat → Nat → Int32, Oth g1 g2 25 ∨ True → (∀ a, a ≠ 60 → a ≠ 61 → a ≠ 62 → g2 a = g1 a) → (∀ s, s ≠ 25 → g2 60 s = g1 60 s ∧ g2 61 s = g1 61 s ∧ g2 62 s = g1 62 s) → g2 60 25 = nI l.length → g2 61 25 = nI p → g2 62 25 = zB gz →
      cwp (d - 1) 128 [vR 58, vI (nI p)] (wi H g2) (fun r1 H1 => wp (d - 1) sc_Model_make 50 [vR 58, vI (nI p), vI x, vI (zB gz), vU, vU, vU, vU] (r1.toList ++ []) H1 Q) := by
    intro g2 _ hfr hsl h60 h61 h62
    have f58 : g2 58 = g 58 := by rw [hfr 58 (by decide) (by decide) (by decide), ho.1 58 (by decide) (by decide)]
    have f70 : g2 70 = g 70 := by rw [hfr 70 (by decide) (by decide) (by decide), ho.1 70 (by decide) (by decide)]
    have keep : ∀ s l', s ≠ 25 → ST g s l' → ST g2 s l' := fun s l' hs hst' => by
      have h1 := hst'.oth ho hs
      exact ⟨by rw [(hsl s hs).1]; exact h1.1, h1.2.1, fun j hj => by rw [hfr 59 (by decide) (by decide) (by decide)]; exact h1.2.2 j hj⟩
    have hR2 : RRv g2 R := ⟨hR.1, by rw [f58]; exact hR.2.1, fun i r hr => by
      have hi : i < R.length := (List.getElem?_eq_some_iff.mp hr).1
      obtain ⟨a1, a2, a3, a4⟩ := hR.2.2 i r hr
      exact ⟨by rw [(hsl i (by omega)).2.1, ho.1 61 (by decide) (by decide)]; exact a1, by rw [(hsl i (by omega)).2.2, ho.1 62 (by decide) (by decide)]; exact a2, (keep i _ (by omega) (a3.st (by omega))).sl (by omega), a4⟩⟩
    have h25 : ST g2 25 l := ⟨h60, hle, fun j hj => by rw [hfr 59 (by decide) (by decide) (by decide)]; exact hst.2.2 j hj⟩
    refine c_count (by omega) hF hR2 hp ?_
    refine f_Model_make_50 hF ?_
    rw [nI_1, nI_sub1]
    refine c_find (by omega) hF hR2 hp (by omega) (fun r hr => ?_)
    have hbf : BF g2 r (pv (pg R p) ((pg R p).length + 1)) := hr.bf hR2
    refine f_Model_make_63 hF (c_sizeOf (s := 25) (c := (gz, l)) (n := (pg R p).length + 1) (bf := pv (pg R p) ((pg R p).length + 1)) (by omega) hF hK (by rw [f58]; exact gK) (by decide) h62 (h25.sl (by decide)) (by omega) hbf (fun g3 hfr3 => ?_))
    have hsz : szP K ((pg R p).length + 1) (gz, l) (pv (pg R p) ((pg R p).length + 1)) ≤ 100000 := szP_le hle (fun e he => by
      rw [he] at hbf
      rcases hbf with ⟨-, hb⟩ | ⟨b, e', -, -, hb, -, hb2⟩
      · cases hb
      · cases hb; exact hb2.le)
    have ebk : (nI (szP K ((pg R p).length + 1) (gz, l) (pv (pg R p) ((pg R p).length + 1))) + 7) / 8 = nI (nbk K R (p, gz, l)) := by
      rw [show (7 : Int32) = nI 7 from rfl, show (8 : Int32) = nI 8 from rfl, nI_add, nI_div (by omega) (by decide)]
      rfl
    have hnb : nbk K R (p, gz, l) ≤ 100007 := Nat.le_trans (Nat.div_le_self _ _) (Nat.add_le_add_right hsz 7)
    generalize hN : nbk K R (p, gz, l) = N at ebk hnb
    have eall : (2 : Int32) * nI N + 2 = nI (2 * N + 2) := by rw [show (2 : Int32) = nI 2 from rfl, nI_mul, nI_add]
    have f3 : ∀ a, a ≠ 63 → a ≠ 64 → g3 a = g2 a := hfr3
    have c10 : g3 58 10 = ct := by rw [f3 58 (by decide) (by decide), f58]; exact hct
    have c13 : g3 58 13 = wr := by rw [f3 58 (by decide) (by decide), f58]; exact hwr
    -- what the heap shows but for the fields of 58 that make writes
    have base : ∀ (g4 : Nat → Nat → Int32) (j0 : Nat → Prop), (∀ a, a ≠ 58 → g4 a = g3 a) → g4 58 2 = g3 58 2 → g4 58 5 = g3 58 5 → g4 58 21 = g3 58 21 → ST g4 24 D ∧ RRv g4 R ∧ ST g4 25 l ∧ g4 61 25 = nI p ∧ g4 62 25 = zB gz ∧ g4 58 5 = nI K ∧ g4 58 21 = nI scr.length ∧ ∀ j, j < scr.length → g4 70 j = tf scr j := by
      intro g4 _ h4 h42 h45 h421
      have e : ∀ a, a ≠ 58 → a ≠ 63 → a ≠ 64 → g4 a = g2 a := fun a q1 q2 q3 => by rw [h4 a q1, f3 a q2 q3]
      have k24 := keep 24 D (by decide) gD
      refine ⟨⟨?_, k24.2.1, fun j hj => ?_⟩, hR2.fr (e 59 (by decide) (by decide) (by decide)) (e 60 (by decide) (by decide) (by decide)) (e 61 (by decide) (by decide) (by decide)) (e 62 (by decide) (by decide) (by decide)) (by rw [h42, f3 58 (by decide) (by decide)]), ⟨?_, hle, fun j hj => ?_⟩, ?_, ?_, ?_, ?_, fun j hj => ?_⟩
      · rw [e 60 (by decide) (by decide) (by decide)]; exact k24.1
      · rw [e 59 (by decide) (by decide) (by decide)]; exact k24.2.2 j hj
      · rw [e 60 (by decide) (by decide) (by decide)]; exact h60
      · rw [e 59 (by decide) (by decide) (by decide)]; exact h25.2.2 j hj
      · rw [e 61 (by decide) (by decide) (by decide)]; exact h61
      · rw [e 62 (by decide) (by decide) (by decide)]; exact h62
      · rw [h45, f3 58 (by decide) (by decide), f58]; exact gK
      · rw [h421, f3 58 (by decide) (by decide), f58]; exact hs2
      · rw [e 70 (by decide) (by decide) (by decide), f70]; exact hs3 j hj
    have done : ¬ (¬ ct < 0 ∧ ct < nI (2 * N + 2)) → cwp (d - 1) 136 [vR 58] (wi H (sm_u2 (sm_u2 (sm_u2 g3 58 11 (nI N)) 58 10 (-1)) 58 13 (wr + nI (2 * N + 2)))) (fun r1 H1 => wp (d - 1) sc_Model_make 170 [vR 58, vI (nI p), vI x, vI (zB gz), vI (nI ((pg R p).length + 1)), vI r, vI (nI (2 * N + 2)), vI ct] (r1.toList ++ []) H1 Q) := by
      intro hno
      obtain ⟨b1, b2, b3, b4, b5, b6, b7, b8⟩ := base (sm_u2 (sm_u2 (sm_u2 g3 58 11 (nI N)) 58 10 (-1)) 58 13 (wr + nI (2 * N + 2))) (fun _ => True) (fun a ha => by rw [u2_na ha, u2_na ha, u2_na ha]) (by rw [u2_ne (Or.inr (by decide)), u2_ne (Or.inr (by decide)), u2_ne (Or.inr (by decide))]) (by rw [u2_ne (Or.inr (by decide)), u2_ne (Or.inr (by decide)), u2_ne (Or.inr (by decide))]) (by rw [u2_ne (Or.inr (by decide)), u2_ne (Or.inr (by decide)), u2_ne (Or.inr (by decide))])
      refine c_enter (rv := (p, gz, l)) (by omega) hF b2 hlt b3 b4 hp b5 (fun g5 r5 s5 o5 j5 => ?_)
      refine f_Model_make_170 hF ?_
      have hk := k g5
      simp only [sp_make, hN, if_neg hno] at hk
      refine hk ⟨hK, ?_, s5 24 D (by decide) b1, r5, ?_, ?_, ?_, ?_, hsc, ?_, fun j hj => ?_⟩
      · rw [j5 5 (by decide)]; exact b6
      · rw [j5 10 (by decide), u2_ne (Or.inr (by decide)), u2_self]
      · rw [j5 13 (by decide), u2_self]
      · rw [j5 9 (by decide), u2_ne (Or.inr (by decide)), u2_ne (Or.inr (by decide)), u2_ne (Or.inr (by decide)), f3 58 (by decide) (by decide), f58]; exact hdw
      · intro h1; rw [hdwf] at h1; cases h1
      · rw [j5 21 (by decide)]; exact b7
      · rw [o5 70 (by decide) (by decide) (by decide) (by decide) (by decide)]; exact b8 j hj
    have cutoff : (¬ ct < 0 ∧ ct < nI (2 * N + 2)) → ∀ b : Bool, b = decide (nI N < ct) → Q (some (vI (-5))) (wi H (sm_u2 (sm_u2 (sm_u2 (sm_u2 (sm_u2 g3 58 11 (nI N)) 58 10 (-1)) 58 13 (wr + ct)) 58 12 (zB b)) 58 9 1)) := by
      intro hyes b hb
      have hk := k (sm_u2 (sm_u2 (sm_u2 (sm_u2 (sm_u2 g3 58 11 (nI N)) 58 10 (-1)) 58 13 (wr + ct)) 58 12 (zB b)) 58 9 1)
      simp only [sp_make, hN, if_pos hyes] at hk
      obtain ⟨b1, b2, b3, b4, b5, b6, b7, b8⟩ := base (sm_u2 (sm_u2 (sm_u2 (sm_u2 (sm_u2 g3 58 11 (nI N)) 58 10 (-1)) 58 13 (wr + ct)) 58 12 (zB b)) 58 9 1) (fun _ => True) (fun a ha => by rw [u2_na ha, u2_na ha, u2_na ha, u2_na ha, u2_na ha]) (by simp [sm_u2]) (by simp [sm_u2]) (by simp [sm_u2])
      refine hk ⟨hK, b6, b1, b2, ?_, ?_, ?_, fun _ => ⟨?_, ?_, by omega, b3, b4, b5, hp, hlt⟩, hsc, b7, b8⟩
      · simp [sm_u2]
      · simp [sm_u2]
      · rw [u2_self]; rfl
      · rw [u2_ne (Or.inr (by decide)), u2_self, hb]
      · simp [sm_u2]
    refine f_Model_make_76 hF (fun q => ?_) (fun q1 q2 => ?_) (fun q1 q2 q3 => ?_) (fun q1 q2 q3 => ?_)
    · rw [c10] at q
      rw [ebk, eall, c13, c10]
      exact done (fun z => z.1 q)
    · rw [c10] at q1
      rw [ebk, eall, c10] at q2
      rw [ebk, eall, c13, c10]
      exact done (fun z => absurd z.2 (Int32.not_lt.mpr q2))
    · rw [c10] at q1
      rw [ebk, eall, c10] at q2
      rw [c10, ebk] at q3
      rw [ebk, c13, c10]
      exact cutoff ⟨q1, Int32.not_le.mp q2⟩ false (by simp [Int32.not_lt.mpr q3])
    · rw [c10] at q1
      rw [ebk, eall, c10] at q2
      rw [c10, ebk] at q3
      rw [ebk, c13, c10]
      exact cutoff ⟨q1, Int32.not_le.mp q2⟩ true (by simp [Int32.not_le.mp q3])
  refine f_Model_make_7 hF (fun q => ?_) (fun q => ?_)
  · refine key _ (Or.inr trivial) (fun a a1 a2 a3 => by rw [u2_na a2, u2_na a3, u2_na a1]) (fun s hs => ⟨?_, ?_, ?_⟩) ?_ ?_ ?_
    · rw [u2_ne (Or.inl (by decide)), u2_ne (Or.inl (by decide)), u2_ne (Or.inr hs)]
    · rw [u2_ne (Or.inr hs), u2_ne (Or.inl (by decide)), u2_ne (Or.inl (by decide))]
    · rw [u2_ne (Or.inl (by decide)), u2_ne (Or.inr hs), u2_ne (Or.inl (by decide))]
    · rw [u2_ne (Or.inl (by decide)), u2_ne (Or.inl (by decide)), u2_self]; exact hst.1
    · rw [u2_self]
    · rw [u2_ne (Or.inl (by decide)), u2_self, nar_z]
  · have hgt : gz = true := by cases gz with
      | true => rfl
      | false => exact absurd rfl q
    have hl0 := hgz hgt
    refine key _ (Or.inr trivial) (fun a a1 a2 a3 => by rw [u2_na a2, u2_na a3, u2_na a1]) (fun s hs => ⟨?_, ?_, ?_⟩) ?_ ?_ ?_
    · rw [u2_ne (Or.inl (by decide)), u2_ne (Or.inl (by decide)), u2_ne (Or.inr hs)]
    · rw [u2_ne (Or.inr hs), u2_ne (Or.inl (by decide)), u2_ne (Or.inl (by decide))]
    · rw [u2_ne (Or.inl (by decide)), u2_ne (Or.inr hs), u2_ne (Or.inl (by decide))]
    · rw [u2_ne (Or.inl (by decide)), u2_ne (Or.inl (by decide)), u2_self, hl0]; rfl
    · rw [u2_self]
    · rw [u2_ne (Or.inl (by decide)), u2_self, nar_z]
end MODI
