/-! the reference: calls with a page -/
def pgN (x : Int32) : Option Nat := if ¬ x < 0 ∧ x < 6 then some x.toNatClampNeg else none
theorem pgN_some {p : Nat} (h : p < 6) : pgN (nI p) = some p := by
  unfold pgN
  rw [if_pos ⟨nI_pos (by omega), by rw [show (6 : Int32) = nI 6 from rfl]; exact nI_lt h (by decide)⟩, nI_clamp (by omega)]
theorem pgN_none {x : Int32} (h : ∀ p : Nat, p < 6 → x ≠ nI p) : pgN x = none := by
  unfold pgN
  rw [if_neg]
  rintro ⟨h1, h2⟩
  obtain ⟨j, hj, rfl⟩ := nI_of h1
  rw [show (6 : Int32) = nI 6 from rfl, nI_ltI hj (by decide)] at h2
  exact h j h2 rfl
theorem pgN_inv {x : Int32} {p : Nat} (h : pgN x = some p) : p < 6 ∧ x = nI p := by
  unfold pgN at h
  split at h
  · rename_i hh
    obtain ⟨h1, h2⟩ := hh
    obtain ⟨j, hj, rfl⟩ := nI_of h1
    rw [show (6 : Int32) = nI 6 from rfl, nI_ltI hj (by decide)] at h2
    rw [nI_clamp hj] at h
    cases h
    exact ⟨h2, rfl⟩
  · cases h
/-- a revision by its page and number -/
def rvN (R : List Rv) (x v : Int32) : Option (Nat × Nat × Bool × Tx) := match pgN x with
  | none => none
  | some p => if v < 1 then none else match (pg R p)[v.toNatClampNeg - 1]? with
    | none => none
    | some e => some (p, v.toNatClampNeg, e)
theorem rvN_at {R : List Rv} {p n : Nat} {e : Bool × Tx} (hp : p < 6) (h1 : 1 ≤ n) (hn : n < 2 ^ 31) (h : (pg R p)[n - 1]? = some e) : rvN R (nI p) (nI n) = some (p, n, e) := by
  unfold rvN
  rw [pgN_some hp]
  dsimp only
  rw [if_neg (by rw [show (1 : Int32) = nI 1 from rfl]; exact nI_nlt h1 hn), nI_clamp hn, h]
theorem rvN_no {R : List Rv} {p n : Nat} (hp : p < 6) (hn : n < 2 ^ 31) (h : n = 0 ∨ (pg R p).length < n) : rvN R (nI p) (nI n) = none := by
  unfold rvN
  rw [pgN_some hp]
  dsimp only
  split
  · rfl
  · rename_i h1
    rw [show (1 : Int32) = nI 1 from rfl, nI_ltI hn (by decide)] at h1
    rw [nI_clamp hn, List.getElem?_eq_none (by omega)]
theorem rvN_p {R : List Rv} {x v : Int32} (h : ∀ p : Nat, p < 6 → x ≠ nI p) : rvN R x v = none := by unfold rvN; rw [pgN_none h]
theorem rvN_1 {R : List Rv} {x v : Int32} (h : v < 1) : rvN R x v = none := by
  unfold rvN
  cases pgN x with
  | none => rfl
  | some p => dsimp only; rw [if_pos h]
def sp_rev (σ : SG) (x v : Int32) : Int32 × SG := if σ.2.2.2.2.2.1 = true then (-1, σ) else match rvN σ.2.2.1 x v with
  | none => (-1, σ)
  | some (p, _, e) => if e.1 = true then (-1, σ) else if 24 ≤ σ.2.2.1.length then (-4, σ) else sp_make σ (p, false, e.2)
def thB (R : List Rv) (p : Nat) : Bool := match (pg R p).getLast? with
  | some e => !e.1
  | none => false
theorem thB_iff {R : List Rv} {p : Nat} : thB R p = true ↔ thr R p := by
  unfold thB thr
  cases (pg R p).getLast? with
  | none => simp
  | some e => simp
def thX (R : List Rv) (x : Int32) : Bool := match pgN x with
  | none => false
  | some p => thB R p
theorem thX_iff {R : List Rv} {x : Int32} : thX R x = true ↔ ∃ p : Nat, p < 6 ∧ x = nI p ∧ thr R p := by
  unfold thX
  constructor
  · intro h
    cases hp : pgN x with
    | none => rw [hp] at h; cases h
    | some p =>
      rw [hp] at h
      obtain ⟨h1, h2⟩ := pgN_inv hp
      exact ⟨p, h1, h2, thB_iff.mp h⟩
  · rintro ⟨p, hp, rfl, h⟩
    rw [pgN_some hp]
    exact thB_iff.mpr h
def sp_rem (σ : SG) (x : Int32) : Int32 × SG := if σ.2.2.2.2.2.1 = true then (-1, σ) else if thX σ.2.2.1 x = false then (-1, σ) else if 24 ≤ σ.2.2.1.length then (-4, σ) else match pgN x with
  | none => (-1, σ)
  | some p => sp_make σ (p, true, [])
def sp_load (σ : SG) (x v : Int32) : Int32 × SG := if σ.2.2.2.2.2.1 = true then (-1, σ) else match rvN σ.2.2.1 x v with
  | none => (-1, σ)
  | some (p, n, e) => (nI (stp σ.1 (pg σ.2.2.1 p) n), σ.1, e.2, σ.2.2)
def sp_latest (σ : SG) (x : Int32) : Int32 := if σ.2.2.2.2.2.1 = true then -1 else match pgN x with
  | none => -1
  | some p => nI (pg σ.2.2.1 p).length
def sp_there (σ : SG) (x : Int32) : Int32 := if σ.2.2.2.2.2.1 = true then 0 else if thX σ.2.2.1 x = true then 1 else 0
def sp_size (σ : SG) (x v : Int32) : Int32 := if σ.2.2.2.2.2.1 = true then -1 else match rvN σ.2.2.1 x v with
  | none => -1
  | some (p, n, e) => nI (szP σ.1 n e (pv (pg σ.2.2.1 p) n))
theorem RI.fr {g g' : Nat → Nat → Int32} {σ : SG} (h : RI g σ) (h58 : ∀ j, j ∈ [2, 5, 9, 10, 11, 12, 13, 21] → g' 58 j = g 58 j) (h59 : g' 59 = g 59) (h60 : g' 60 = g 60) (h61 : g' 61 = g 61) (h62 : g' 62 = g 62) (h70 : g' 70 = g 70) : RI g' σ := by
  obtain ⟨K, D, R, ct, wr, dw, cl, nb, pd, scr⟩ := σ
  obtain ⟨hK, gK, gD, hR, hct, hwr, hdw, hpd, hsc, hs2, hs3⟩ := h
  have st : ∀ s l, ST g s l → ST g' s l := fun s l q => ⟨by rw [h60]; exact q.1, q.2.1, fun j hj => by rw [h59]; exact q.2.2 j hj⟩
  refine ⟨hK, by rw [h58 5 (by decide)]; exact gK, st _ _ gD, hR.fr h59 h60 h61 h62 (h58 2 (by decide)), by rw [h58 10 (by decide)]; exact hct, by rw [h58 13 (by decide)]; exact hwr, by rw [h58 9 (by decide)]; exact hdw, fun q => ?_, hsc, by rw [h58 21 (by decide)]; exact hs2, fun j hj => by rw [h70]; exact hs3 j hj⟩
  obtain ⟨a1, a2, a3, a4, a5, a6, a7, a8⟩ := hpd q
  exact ⟨by rw [h58 12 (by decide)]; exact a1, by rw [h58 11 (by decide)]; exact a2, a3, st _ _ a4, by rw [h61]; exact a5, by rw [h62]; exact a6, a7, a8⟩
theorem RI.draft {g g' : Nat → Nat → Int32} {σ : SG} {D' : Tx} (h : RI g σ) (ho : Oth g g' 24) (hst : ST g' 24 D') : RI g' (σ.1, D', σ.2.2) := by
  obtain ⟨K, D, R, ct, wr, dw, cl, nb, pd, scr⟩ := σ
  obtain ⟨hK, gK, gD, hR, hct, hwr, hdw, hpd, hsc, hs2, hs3⟩ := h
  have o58 := ho.1 58 (by decide) (by decide)
  have o61 := ho.1 61 (by decide) (by decide)
  have o62 := ho.1 62 (by decide) (by decide)
  have h24 := hR.1
  refine ⟨hK, by rw [o58]; exact gK, hst, ⟨hR.1, by rw [o58]; exact hR.2.1, fun i r hr => ?_⟩, by rw [o58]; exact hct, by rw [o58]; exact hwr, by rw [o58]; exact hdw, fun q => ?_, hsc, by rw [o58]; exact hs2, fun j hj => by rw [ho.1 70 (by decide) (by decide)]; exact hs3 j hj⟩
  · have hi : i < R.length := (List.getElem?_eq_some_iff.mp hr).1
    obtain ⟨a1, a2, a3, a4⟩ := hR.2.2 i r hr
    exact ⟨by rw [o61]; exact a1, by rw [o62]; exact a2, a3.oth ho (fun e => by have := (nI_eq (by omega) (by decide)).mp e; omega), a4⟩
  · obtain ⟨a1, a2, a3, a4, a5, a6, a7, a8⟩ := hpd q
    exact ⟨by rw [o58]; exact a1, by rw [o58]; exact a2, a3, a4.oth ho (by decide), by rw [o61]; exact a5, by rw [o62]; exact a6, a7, a8⟩
section MODJ
variable {d : Nat} {Q : Option AV → AH → Prop} {H : AH} {g : Nat → Nat → Int32} {x y v : Int32} {l l2 : Tx} {σ : SG}
theorem RI.dn0 (h : RI g σ) : g 58 9 = 0 ↔ ¬ σ.2.2.2.2.2.1 = true := by
  obtain ⟨K, D, R, ct, wr, dw, cl, nb, pd, scr⟩ := σ
  obtain ⟨hK, gK, gD, hR, hct, hwr, hdw, -⟩ := h
  rw [hdw, zB_0]
  simp
theorem RI.rr (h : RI g σ) : RRv g σ.2.2.1 := by
  obtain ⟨K, D, R, ct, wr, dw, cl, nb, pd, scr⟩ := σ
  exact h.2.2.2.1
theorem RI.kk (h : RI g σ) : (1 ≤ σ.1 ∧ σ.1 ≤ 5) ∧ g 58 5 = nI σ.1 := by
  obtain ⟨K, D, R, ct, wr, dw, cl, nb, pd, scr⟩ := σ
  exact ⟨h.1, h.2.1⟩
theorem RI.dr (h : RI g σ) : ST g 24 σ.2.1 := by
  obtain ⟨K, D, R, ct, wr, dw, cl, nb, pd, scr⟩ := σ
  exact h.2.2.1
theorem nI_lt1 {v : Int32} (h : (1 : Int32) ≤ v) : ∃ n : Nat, 1 ≤ n ∧ n < 2 ^ 31 ∧ v = nI n := by
  have h0 : ¬ v < 0 := by
    intro q
    have h1 := Int32.lt_iff_toInt_lt.mp q
    have h2 := Int32.le_iff_toInt_le.mp h
    have e1 : (1 : Int32).toInt = 1 := rfl
    have e0 : (0 : Int32).toInt = 0 := rfl
    omega
  obtain ⟨n, hn, rfl⟩ := nI_of h0
  refine ⟨n, ?_, hn, rfl⟩
  rw [show (1 : Int32) = nI 1 from rfl, nI_leI (by decide) hn] at h
  exact h
theorem r_revert (hd : 8 ≤ d) (hF : Fix H) (h : RI g σ) (k : ∀ g', RI g' (sp_rev σ x v).2 → Q (some (vI (sp_rev σ x v).1)) (wi H g')) : cwp d 140 [vR 58, vI x, vI v] (wi H g) Q := by
  have hR := h.rr
  have h24 := hR.1
  refine e_Model_revert (by omega) (hF.c 58 31 rfl) (f_Model_revert_0 hF (fun q => ?_) (fun q => ?_))
  · have hdw : σ.2.2.2.2.2.1 = true := by
      rw [h.dn0] at q
      simpa using q
    have e : sp_rev σ x v = (-1, σ) := by unfold sp_rev; rw [if_pos hdw]
    rw [e] at k
    exact k g h
  · have hdw : ¬ σ.2.2.2.2.2.1 = true := h.dn0.mp q
    have no : rvN σ.2.2.1 x v = none → Q (some (vI (-1))) (wi H g) := fun hn => by
      have e : sp_rev σ x v = (-1, σ) := by unfold sp_rev; rw [if_neg hdw, hn]
      rw [e] at k
      exact k g h
    refine c_isPage (by omega) (fun p hp e => ?_) (fun hno => ?_)
    · subst e
      refine f_Model_revert_11 hF (fun q1 => absurd q1 (by decide)) (fun _ q1 => ?_) (fun _ q1 => no (rvN_1 (Int32.not_le.mp q1)))
      obtain ⟨n, h1, hn, rfl⟩ := nI_lt1 q1
      have hpl := pg_le σ.2.2.1 p
      refine c_find (by omega) hF hR hp hn (fun r hr => ?_)
      rcases hr with ⟨i, e, rfl, b1, b2, b3⟩ | ⟨rfl, hr⟩
      · have hi : i < σ.2.2.1.length := (List.getElem?_eq_some_iff.mp b1).1
        obtain ⟨a1, a2, a3, a4⟩ := hR.2.2 i _ b1
        have hc : (nI i).toNatClampNeg = i := nI_clamp (by omega)
        have hrv := rvN_at hp h1 hn b3
        refine f_Model_revert_29 hF (fun _ => vp_in_nI (by omega) (by decide)) (fun q2 => absurd q2 (nI_pos (by omega))) (fun _ q2 q3 => ?_) (fun _ q2 q3 => ?_) (fun _ q2 => ?_)
        · rw [hc, a2, zB_0] at q2
          have q2 : e.1 = false := q2
          rw [hR.2.1, show (24 : Int32) = nI 24 from rfl, nI_ltI (by omega) (by decide)] at q3
          have es : sp_rev σ (nI p) (nI n) = sp_make σ (p, false, e.2) := by unfold sp_rev; rw [if_neg hdw, hrv]; dsimp only; rw [if_neg (by rw [q2]; decide), if_neg (by omega)]
          rw [es] at k
          refine c_make (gz := false) (by omega) hF h hp q q3 a3 (fun z => ?_) (fun z => by cases z) (fun g' h' => ?_)
          · have := (nI_eq (by omega) (by decide)).mp z; omega
          · exact f_Model_revert_66 hF (k g' h')
        · rw [hc, a2, zB_0] at q2
          have q2 : e.1 = false := q2
          rw [hR.2.1, show (24 : Int32) = nI 24 from rfl, nI_ltI (by omega) (by decide)] at q3
          have es : sp_rev σ (nI p) (nI n) = (-4, σ) := by unfold sp_rev; rw [if_neg hdw, hrv]; dsimp only; rw [if_neg (by rw [q2]; decide), if_pos (by omega)]
          rw [es] at k
          exact k g h
        · rw [hc, a2, zB_0] at q2
          have q2 : e.1 = true := by simpa using q2
          have es : sp_rev σ (nI p) (nI n) = (-1, σ) := by unfold sp_rev; rw [if_neg hdw, hrv]; dsimp only; rw [if_pos q2]
          rw [es] at k
          exact k g h
      · exact f_Model_revert_29 hF (fun q2 => absurd (by decide) q2) (fun _ => no (rvN_no hp hn hr)) (fun q2 => absurd (by decide) q2) (fun q2 => absurd (by decide) q2) (fun q2 => absurd (by decide) q2)
    · exact f_Model_revert_11 hF (fun _ => no (rvN_p hno)) (fun q1 => absurd rfl q1) (fun q1 => absurd rfl q1)
theorem r_remove (hd : 8 ≤ d) (hF : Fix H) (h : RI g σ) (k : ∀ g', RI g' (sp_rem σ x).2 → Q (some (vI (sp_rem σ x).1)) (wi H g')) : cwp d 141 [vR 58, vI x] (wi H g) Q := by
  have hR := h.rr
  have h24 := hR.1
  refine e_Model_remove (by omega) (hF.c 58 31 rfl) (f_Model_remove_0 hF (fun q => ?_) (fun q => ?_))
  · have hdw : σ.2.2.2.2.2.1 = true := by
      rw [h.dn0] at q
      simpa using q
    have e : sp_rem σ x = (-1, σ) := by unfold sp_rem; rw [if_pos hdw]
    rw [e] at k
    exact k g h
  · have hdw : ¬ σ.2.2.2.2.2.1 = true := h.dn0.mp q
    refine c_isThere (by omega) hF hR (fun r hr => ?_)
    rw [← thX_iff] at hr
    rcases hr with ⟨ht, rfl⟩ | ⟨ht, rfl⟩
    · obtain ⟨p, hp, rfl, -⟩ := thX_iff.mp ht
      refine f_Model_remove_12 hF (fun _ q3 => ?_) (fun _ q3 => ?_) (fun q2 => absurd q2 (by decide))
      · rw [hR.2.1, show (24 : Int32) = nI 24 from rfl, nI_ltI (by omega) (by decide)] at q3
        have es : sp_rem σ (nI p) = sp_make σ (p, true, []) := by unfold sp_rem; rw [if_neg hdw, if_neg (by rw [ht]; decide), if_neg (by omega), pgN_some hp]
        rw [es] at k
        refine c_make (x := -1) (l := []) (gz := true) (by omega) hF h hp q q3 (Or.inl ⟨rfl, rfl⟩) (by decide) (fun _ => rfl) (fun g' h' => ?_)
        exact f_Model_remove_38 hF (k g' h')
      · rw [hR.2.1, show (24 : Int32) = nI 24 from rfl, nI_ltI (by omega) (by decide)] at q3
        have es : sp_rem σ (nI p) = (-4, σ) := by unfold sp_rem; rw [if_neg hdw, if_neg (by rw [ht]; decide), if_pos (by omega)]
        rw [es] at k
        exact k g h
    · refine f_Model_remove_12 hF (fun q2 => absurd rfl q2) (fun q2 => absurd rfl q2) (fun _ => ?_)
      have es : sp_rem σ x = (-1, σ) := by unfold sp_rem; rw [if_neg hdw, if_pos (by simpa using ht)]
      rw [es] at k
      exact k g h
theorem r_load (hd : 3 ≤ d) (hF : Fix H) (h : RI g σ) (k : ∀ g', RI g' (sp_load σ x v).2 → Q (some (vI (sp_load σ x v).1)) (wi H g')) : cwp d 142 [vR 58, vI x, vI v] (wi H g) Q := by
  have hR := h.rr
  have h24 := hR.1
  refine e_Model_load (by omega) (hF.c 58 31 rfl) (f_Model_load_0 hF (fun q => ?_) (fun q => ?_))
  · have hdw : σ.2.2.2.2.2.1 = true := by
      rw [h.dn0] at q
      simpa using q
    have e : sp_load σ x v = (-1, σ) := by unfold sp_load; rw [if_pos hdw]
    rw [e] at k
    exact k g h
  · have hdw : ¬ σ.2.2.2.2.2.1 = true := h.dn0.mp q
    have no : rvN σ.2.2.1 x v = none → Q (some (vI (-1))) (wi H g) := fun hn => by
      have e : sp_load σ x v = (-1, σ) := by unfold sp_load; rw [if_neg hdw, hn]
      rw [e] at k
      exact k g h
    refine c_isPage (by omega) (fun p hp e => ?_) (fun hno => ?_)
    · subst e
      refine f_Model_load_11 hF (fun q1 => absurd q1 (by decide)) (fun _ q1 => ?_) (fun _ q1 => no (rvN_1 (Int32.not_le.mp q1)))
      obtain ⟨n, h1, hn, rfl⟩ := nI_lt1 q1
      have hpl := pg_le σ.2.2.1 p
      refine c_find (by omega) hF hR hp hn (fun r hr => ?_)
      rcases hr with ⟨i, e, rfl, b1, b2, b3⟩ | ⟨rfl, hr⟩
      · have hi : i < σ.2.2.1.length := (List.getElem?_eq_some_iff.mp b1).1
        obtain ⟨a1, a2, a3, a4⟩ := hR.2.2 i _ b1
        have hrv := rvN_at hp h1 hn b3
        have hnl : n - 1 < (pg σ.2.2.1 p).length := (List.getElem?_eq_some_iff.mp b3).1
        refine f_Model_load_29 hF (fun _ => ?_) (fun q2 => absurd (nI_pos' (by omega)) q2)
        refine c_copy (t := 24) (by omega) hF a3 (by decide) (fun z => ?_) (fun g1 ho hst => ?_)
        · have := (nI_eq (by omega) (by decide)).mp z; omega
        · have h' := h.draft ho hst
          have es : sp_load σ (nI p) (nI n) = (nI (stp σ.1 (pg σ.2.2.1 p) n), σ.1, e.2, σ.2.2) := by unfold sp_load; rw [if_neg hdw, hrv]
          rw [es] at k
          refine f_Model_load_43 hF (c_stepsOf (K := σ.1) (R := σ.2.2.1) (by omega) hF h'.kk.1 h'.kk.2 h'.rr hp (by omega) ?_)
          exact f_Model_load_49 hF (k g1 h')
      · exact f_Model_load_29 hF (fun q2 => absurd q2 (by decide)) (fun _ => no (rvN_no hp hn hr))
    · exact f_Model_load_11 hF (fun _ => no (rvN_p hno)) (fun q1 => absurd rfl q1) (fun q1 => absurd rfl q1)
theorem r_latest (hd : 2 ≤ d) (hF : Fix H) (h : RI g σ) (k : Q (some (vI (sp_latest σ x))) (wi H g)) : cwp d 143 [vR 58, vI x] (wi H g) Q := by
  refine e_Model_latest (by omega) (hF.c 58 31 rfl) (f_Model_latest_0 hF (fun q => ?_) (fun q => ?_))
  · rw [h.dn0] at q
    unfold sp_latest at k
    rw [if_pos (by simpa using q)] at k
    exact k
  · have hdw : ¬ σ.2.2.2.2.2.1 = true := h.dn0.mp q
    unfold sp_latest at k
    rw [if_neg hdw] at k
    refine c_isPage (by omega) (fun p hp e => ?_) (fun hno => ?_)
    · subst e
      rw [pgN_some hp] at k
      refine f_Model_latest_11 hF (fun _ => c_count (by omega) hF h.rr hp ?_) (fun q1 => absurd q1 (by decide))
      exact f_Model_latest_23 hF k
    · rw [pgN_none hno] at k
      exact f_Model_latest_11 hF (fun q1 => absurd rfl q1) (fun _ => k)
theorem r_there (hd : 3 ≤ d) (hF : Fix H) (h : RI g σ) (k : Q (some (vI (sp_there σ x))) (wi H g)) : cwp d 144 [vR 58, vI x] (wi H g) Q := by
  refine e_Model_there (by omega) (hF.c 58 31 rfl) (f_Model_there_0 hF (fun q => ?_) (fun q => ?_))
  · rw [h.dn0] at q
    unfold sp_there at k
    rw [if_pos (by simpa using q)] at k
    exact k
  · have hdw : ¬ σ.2.2.2.2.2.1 = true := h.dn0.mp q
    unfold sp_there at k
    rw [if_neg hdw] at k
    refine c_isThere (by omega) hF h.rr (fun r hr => ?_)
    rw [← thX_iff] at hr
    rcases hr with ⟨ht, rfl⟩ | ⟨ht, rfl⟩
    · rw [if_pos ht] at k
      exact f_Model_there_12 hF (fun q1 => absurd q1 (by decide)) (fun _ => k)
    · rw [if_neg ht] at k
      exact f_Model_there_12 hF (fun _ => k) (fun q1 => absurd rfl q1)
theorem r_size (hd : 7 ≤ d) (hF : Fix H) (h : RI g σ) (k : ∀ g', RI g' σ → Q (some (vI (sp_size σ x v))) (wi H g')) : cwp d 145 [vR 58, vI x, vI v] (wi H g) Q := by
  have hR := h.rr
  have h24 := hR.1
  refine e_Model_size (by omega) (hF.c 58 31 rfl) (f_Model_size_0 hF (fun q => ?_) (fun q => ?_))
  · have hdw : σ.2.2.2.2.2.1 = true := by
      rw [h.dn0] at q
      simpa using q
    have e : sp_size σ x v = -1 := by unfold sp_size; rw [if_pos hdw]
    rw [e] at k
    exact k g h
  · have hdw : ¬ σ.2.2.2.2.2.1 = true := h.dn0.mp q
    have no : rvN σ.2.2.1 x v = none → Q (some (vI (-1))) (wi H g) := fun hn => by
      have e : sp_size σ x v = -1 := by unfold sp_size; rw [if_neg hdw, hn]
      rw [e] at k
      exact k g h
    refine c_isPage (by omega) (fun p hp e => ?_) (fun hno => ?_)
    · subst e
      refine f_Model_size_11 hF (fun q1 => absurd q1 (by decide)) (fun _ q1 => ?_) (fun _ q1 => no (rvN_1 (Int32.not_le.mp q1)))
      obtain ⟨n, h1, hn, rfl⟩ := nI_lt1 q1
      have hpl := pg_le σ.2.2.1 p
      refine c_find (by omega) hF hR hp hn (fun r hr => ?_)
      rcases hr with ⟨i, e, rfl, b1, b2, b3⟩ | ⟨rfl, hr⟩
      · have hi : i < σ.2.2.1.length := (List.getElem?_eq_some_iff.mp b1).1
        obtain ⟨a1, a2, a3, a4⟩ := hR.2.2 i _ b1
        have hrv := rvN_at hp h1 hn b3
        have es : sp_size σ (nI p) (nI n) = nI (szP σ.1 n e (pv (pg σ.2.2.1 p) n)) := by unfold sp_size; rw [if_neg hdw, hrv]
        rw [es] at k
        have en : nI n - 1 = nI (n - 1) := by
          have := nI_sub1 (n - 1)
          rw [show n - 1 + 1 = n by omega] at this
          exact this
        refine f_Model_size_29 hF (fun _ => ?_) (fun q2 => absurd (nI_pos' (by omega)) q2)
        rw [en]
        refine c_find (by omega) hF hR hp (by omega) (fun r2 hr2 => ?_)
        have hbf : BF g r2 (pv (pg σ.2.2.1 p) n) := hr2.bf hR
        refine f_Model_size_49 hF (c_sizeOf (K := σ.1) (c := e) (by omega) hF h.kk.1 h.kk.2 (by omega) a2 a3 ⟨h1, hn⟩ hbf (fun g' hfr => ?_))
        refine f_Model_size_52 hF (k g' (h.fr (fun j _ => by rw [hfr 58 (by decide) (by decide)]) (hfr 59 (by decide) (by decide)) (hfr 60 (by decide) (by decide)) (hfr 61 (by decide) (by decide)) (hfr 62 (by decide) (by decide)) (hfr 70 (by decide) (by decide))))
      · exact f_Model_size_29 hF (fun q2 => absurd q2 (by decide)) (fun _ => no (rvN_no hp hn hr))
    · exact f_Model_size_11 hF (fun _ => no (rvN_p hno)) (fun q1 => absurd rfl q1) (fun q1 => absurd rfl q1)
end MODJ
