/-! the reference: save -/
theorem mg_ne {O A B : List Ln} (hA : A ≠ []) (hB : B ≠ []) : ∀ (ps : List (Option Nat × Option Nat)) (k : Nat), mg O A B ps k 0 0 0 ≠ some [] := by
  have sA : sub A 0 A.length = A := by unfold sub; simp
  have sB : sub B 0 B.length = B := by unfold sub; simp
  intro ps
  induction ps with
  | nil =>
    intro k h
    rw [mg] at h
    unfold rgn at h
    rw [sA, sB] at h
    split at h
    · exact hB (Option.some.inj h)
    · split at h
      · exact hA (Option.some.inj h)
      · cases h
  | cons q ps ih =>
    intro k h
    obtain ⟨u, v⟩ := q
    cases u with
    | none => rw [mg] at h; exact ih _ h; intro pa pb e; cases e
    | some pa =>
      cases v with
      | none => rw [mg] at h; exact ih _ h; intro pa pb e; cases e
      | some pb =>
        rw [mg] at h
        split at h
        · cases h
        · split at h
          · cases h
          · have := Option.some.inj h
            simp at this
theorem LN_ne (l : Tx) : LN l ≠ [] := fun e => by
  have := LN_len l
  rw [e] at this
  unfold nLn at this
  simp at this
def mrgL (O A B : Tx) : Option (List Ln) := mg (LN O) (LN A) (LN B) ((PR (LN O) (LN A)).zip (PR (LN O) (LN B))) 0 0 0 0
/-- the text of revision n of a page, the empty one for 0 -/
def rtx (P : List (Bool × Tx)) (n : Nat) : Tx := if n = 0 then [] else (P.getD (n - 1) (true, [])).2
def sp_save (σ : SG) (x b : Int32) : Int32 × SG := if σ.2.2.2.2.2.1 = true then (-1, σ) else match pgN x with
  | none => (-1, σ)
  | some p => if b < 0 ∨ nI (pg σ.2.2.1 p).length < b then (-1, σ) else if 24 ≤ σ.2.2.1.length then (-4, σ)
    else if b = nI (pg σ.2.2.1 p).length then sp_make σ (p, false, σ.2.1)
    else match mrgL (rtx (pg σ.2.2.1 p) b.toNatClampNeg) (rtx (pg σ.2.2.1 p) (pg σ.2.2.1 p).length) σ.2.1 with
      | none => (-2, σ)
      | some ls => if 40 < (em false ls).length then (-3, σ) else sp_make σ (p, false, em false ls)
section MODN
variable {d : Nat} {Q : Option AV → AH → Prop} {H : AH} {g : Nat → Nat → Int32} {x y v : Int32} {lo la lb : Tx} {xo xa : Int32} {σ : SG}
theorem c_merge (hd : 6 ≤ d) (hF : Fix H) (ho : SL g xo lo) (ha : SL g xa la) (hb : ST g 24 lb) (hxo : xo ≠ nI 26) (hxa : xa ≠ nI 26)
    (kc : mrgL lo la lb = none → ∀ g', (∀ a, a ≠ 59 → a ≠ 60 → a ≠ 63 → a ≠ 64 → a ≠ 65 → g' a = g a) → (∀ j, j < 1040 → g' 59 j = g 59 j) → (∀ s, s ≠ 26 → g' 60 s = g 60 s) → Q (some (vI 0)) (wi H g'))
    (kn : ∀ ls g', mrgL lo la lb = some ls → (∀ a, a ≠ 59 → a ≠ 60 → a ≠ 63 → a ≠ 64 → a ≠ 65 → g' a = g a) → (∀ j, j < 1040 → g' 59 j = g 59 j) → (∀ s, s ≠ 26 → g' 60 s = g 60 s) → MB g' (!ls.isEmpty) (em false ls) → (em false ls).length ≤ 99 → Q (some (vI 1)) (wi H g')) : cwp d 138 [vR 58, vI xo, vI xa] (wi H g) Q := by
  have sb := hb.sl (by decide)
  refine e_Model_merge (by omega) (hF.c 58 31 rfl) (f_Model_merge_0 hF (c_match (f := 1) (by omega) hF ho ha (fun g1 w1 fr1 => ?_)))
  have fr1' : ∀ a, a ≠ 64 → a ≠ 63 → g1 a = g a := fr1
  have so1 := ho.fr (fr1' 59 (by decide) (by decide)) (fr1' 60 (by decide) (by decide))
  have sb1 := sb.fr (fr1' 59 (by decide) (by decide)) (fr1' 60 (by decide) (by decide))
  refine f_Model_merge_7 hF (c_match (y := nI 24) (f := 0) (by omega) hF so1 sb1 (fun g2 w2 fr2 => ?_))
  have fr2' : ∀ a, a ≠ 65 → a ≠ 63 → g2 a = g1 a := fr2
  have fr : ∀ a, a ≠ 63 → a ≠ 64 → a ≠ 65 → g2 a = g a := fun a h1 h2 h3 => by rw [fr2' a h3 h1, fr1' a h2 h1]
  have o3 : O26 g2 (sm_u2 g2 60 26 (-1)) := O26.t60
  have so2 := (ho.fr (fr 59 (by decide) (by decide) (by decide)) (fr 60 (by decide) (by decide) (by decide))).o26 o3 hxo
  have sa2 := (ha.fr (fr 59 (by decide) (by decide) (by decide)) (fr 60 (by decide) (by decide) (by decide))).o26 o3 hxa
  have sb2 : ST (sm_u2 g2 60 26 (-1)) 24 lb := (((sb.fr (fr 59 (by decide) (by decide) (by decide)) (fr 60 (by decide) (by decide) (by decide))).o26 o3 (by decide)).st (by decide))
  refine f_Model_merge_15 hF (c_lines (by omega) hF so2 ?_)
  refine f_Model_merge_36 hF (c_lines (by omega) hF sa2 ?_)
  refine f_Model_merge_43 hF (c_lines (x := nI 24) (by omega) hF (sb2.sl (by decide)) ?_)
  refine f_Model_merge_51 hF ?_
  have back : ∀ g', O26 (sm_u2 g2 60 26 (-1)) g' → (∀ a, a ≠ 59 → a ≠ 60 → a ≠ 63 → a ≠ 64 → a ≠ 65 → g' a = g a) ∧ (∀ j, j < 1040 → g' 59 j = g 59 j) ∧ (∀ s, s ≠ 26 → g' 60 s = g 60 s) := fun g' h' => by
    have h2 := o3.trans h'
    exact ⟨fun a a1 a2 a3 a4 a5 => by rw [h2.1 a a1 a2, fr a a3 a4 a5], fun j hj => by rw [h2.2.1 j hj, fr 59 (by decide) (by decide) (by decide)], fun s hs => by rw [h2.2.2 s hs, fr 60 (by decide) (by decide) (by decide)]⟩
  refine lm_mloop (F := mrgL lo la lb) (by omega) hF so2 sa2 sb2 hxo hxa (fun i hi => ?_) (fun i hi => ?_) (fun hn g' h' => ?_) (fun ls g' hs h' hm hl9 => ?_) _ 0 0 0 [] _ _ _ _ _ (Nat.le_refl _) (Nat.zero_le _) (Nat.zero_le _) (Nat.zero_le _) ?_ (fun z q _ _ => Nat.zero_le _) (fun z q _ _ => Nat.zero_le _) O26.rf ?_ (by simp [em])
  · rw [u2_ne (Or.inl (by decide)), fr2' 64 (by decide) (by decide)]; exact w1 i hi
  · rw [u2_ne (Or.inl (by decide))]; exact w2 i hi
  · obtain ⟨b1, b2, b3⟩ := back g' h'
    exact kc hn g' b1 b2 b3
  · obtain ⟨b1, b2, b3⟩ := back g' h'
    exact kn ls g' hs b1 b2 b3 hm hl9
  · unfold mrgL
    simp
  · exact ⟨by rw [u2_self]; rfl, fun _ => rfl, fun j hj => by simp [em] at hj⟩
/-- after a merge: nothing that the state shows has changed -/
theorem RI.mg {g g' : Nat → Nat → Int32} (h : RI g σ) (b1 : ∀ a, a ≠ 59 → a ≠ 60 → a ≠ 63 → a ≠ 64 → a ≠ 65 → g' a = g a) (b2 : ∀ j, j < 1040 → g' 59 j = g 59 j) (b3 : ∀ s, s ≠ 26 → g' 60 s = g 60 s) : RI g' σ := by
  obtain ⟨K, D, R, ct, wr, dw, cl, nb, pd, scr⟩ := σ
  obtain ⟨hK, gK, gD, hR, hct, hwr, hdw, hpd, hsc, hs2, hs3⟩ := h
  have f58 := b1 58 (by decide) (by decide) (by decide) (by decide) (by decide)
  have f61 := b1 61 (by decide) (by decide) (by decide) (by decide) (by decide)
  have f62 := b1 62 (by decide) (by decide) (by decide) (by decide) (by decide)
  have f70 := b1 70 (by decide) (by decide) (by decide) (by decide) (by decide)
  have st : ∀ s l, s ≤ 25 → ST g s l → ST g' s l := fun s l hs q => ⟨by rw [b3 s (by omega)]; exact q.1, q.2.1, fun j hj => by have := q.2.1; rw [b2 _ (by omega)]; exact q.2.2 j hj⟩
  have h24 := hR.1
  refine ⟨hK, by rw [f58]; exact gK, st _ _ (by decide) gD, ⟨hR.1, by rw [f58]; exact hR.2.1, fun i r hr => ?_⟩, by rw [f58]; exact hct, by rw [f58]; exact hwr, by rw [f58]; exact hdw, fun q => ?_, hsc, by rw [f58]; exact hs2, fun j hj => by rw [f70]; exact hs3 j hj⟩
  · have hi : i < R.length := (List.getElem?_eq_some_iff.mp hr).1
    obtain ⟨a1, a2, a3, a4⟩ := hR.2.2 i r hr
    exact ⟨by rw [f61]; exact a1, by rw [f62]; exact a2, (st i _ (by omega) (a3.st (by omega))).sl (by omega), a4⟩
  · obtain ⟨a1, a2, a3, a4, a5, a6, a7, a8⟩ := hpd q
    exact ⟨by rw [f58]; exact a1, by rw [f58]; exact a2, a3, st _ _ (by decide) a4, by rw [f61]; exact a5, by rw [f62]; exact a6, a7, a8⟩
theorem FN.rt {R : List Rv} {p n : Nat} {r : Int32} (hR : RRv g R) (hn : n ≤ (pg R p).length) (h : FN R p n r) : SL g r (rtx (pg R p) n) ∧ r ≠ nI 26 := by
  have h24 := hR.1
  rcases h with ⟨k, e, rfl, h1, h2, h3⟩ | ⟨rfl, h⟩
  · have hk : k < R.length := (List.getElem?_eq_some_iff.mp h1).1
    obtain ⟨a1, a2, a3, a4⟩ := hR.2.2 k _ h1
    have : rtx (pg R p) n = e.2 := by unfold rtx; rw [if_neg (by omega), List.getD_eq_getElem?_getD, h3]; rfl
    rw [this]
    exact ⟨a3, fun z => by have := (nI_eq (by omega) (by decide)).mp z; omega⟩
  · have : n = 0 := by omega
    subst this
    exact ⟨Or.inl ⟨rfl, rfl⟩, by decide⟩
theorem r_save (hd : 8 ≤ d) (hF : Fix H) (h : RI g σ) (k : ∀ g', RI g' (sp_save σ x v).2 → Q (some (vI (sp_save σ x v).1)) (wi H g')) : cwp d 137 [vR 58, vI x, vI v] (wi H g) Q := by
  have hR := h.rr
  have h24 := hR.1
  refine e_Model_save (by omega) (hF.c 58 31 rfl) (f_Model_save_0 hF (fun q => ?_) (fun q => ?_))
  · have hdw : σ.2.2.2.2.2.1 = true := by
      rw [h.dn0] at q
      simpa using q
    have e : sp_save σ x v = (-1, σ) := by unfold sp_save; rw [if_pos hdw]
    rw [e] at k
    exact k g h
  · have hdw : ¬ σ.2.2.2.2.2.1 = true := h.dn0.mp q
    refine c_isPage (by omega) (fun p hp e => ?_) (fun hno => ?_)
    · subst e
      have hpl := pg_le σ.2.2.1 p
      generalize hN : (pg σ.2.2.1 p).length = N at hpl
      have bad : (v < 0 ∨ nI N < v) → Q (some (vI (-1))) (wi H g) := fun hz => by
        have e : sp_save σ (nI p) v = (-1, σ) := by unfold sp_save; rw [if_neg hdw, pgN_some hp]; dsimp only; rw [hN, if_pos hz]
        rw [e] at k
        exact k g h
      refine f_Model_save_11 hF (fun q1 => absurd q1 (by decide)) (fun _ q1 => bad (Or.inl q1)) (fun _ q1 => ?_)
      refine c_count (by omega) hF hR hp ?_
      rw [hN]
      refine f_Model_save_24 hF (fun q2 q3 => ?_) (fun q2 q3 => ?_) (fun q2 => bad (Or.inr (Int32.not_le.mp q2)))
      · have hok : ¬ (v < 0 ∨ nI N < v) := by
          rintro (z | z)
          · exact q1 z
          · exact absurd q2 (Int32.not_le.mpr z)
        rw [hR.2.1, show (24 : Int32) = nI 24 from rfl, nI_ltI (by omega) (by decide)] at q3
        refine c_count (by omega) hF hR hp ?_
        rw [hN]
        refine f_Model_save_46 hF (fun q4 => ?_) (fun q4 => ?_)
        · obtain ⟨b, hb, rfl⟩ := nI_of q1
          have hbN : b ≤ N := (nI_leI hb (by omega)).mp q2
          refine c_find (by omega) hF hR hp hb (fun r hr => ?_)
          refine f_Model_save_67 hF (c_find (by omega) hF hR hp (by omega) (fun r2 hr2 => ?_))
          obtain ⟨s1, n1⟩ := hr.rt hR (by omega)
          obtain ⟨s2, n2⟩ := hr2.rt hR (by omega)
          have es : sp_save σ (nI p) (nI b) = match mrgL (rtx (pg σ.2.2.1 p) b) (rtx (pg σ.2.2.1 p) N) σ.2.1 with
              | none => (-2, σ)
              | some ls => if 40 < (em false ls).length then (-3, σ) else sp_make σ (p, false, em false ls) := by
            unfold sp_save
            rw [if_neg hdw, pgN_some hp]
            dsimp only
            rw [hN, if_neg hok, if_neg (by omega), if_neg q4, nI_clamp hb]
          refine f_Model_save_75 hF (c_merge (by omega) hF s1 s2 h.dr n1 n2 (fun hn g' b1 b2 b3 => ?_) (fun ls g' hs b1 b2 b3 hm hl9 => ?_))
          · refine f_Model_save_85 hF (fun z => absurd rfl z) (fun z => absurd rfl z) (fun _ => ?_)
            rw [es, hn] at k
            exact k g' (h.mg b1 b2 b3)
          · have h' := h.mg b1 b2 b3
            have hne : ls ≠ [] := fun z => by
              rw [z] at hs
              exact mg_ne (LN_ne _) (LN_ne _) _ _ hs
            have hbe : (!ls.isEmpty) = true := by cases ls with
              | nil => exact absurd rfl hne
              | cons a b => rfl
            rw [hbe] at hm
            obtain ⟨m1, -, m3⟩ := hm
            rw [if_pos rfl] at m1
            have hlen : (em false ls).length < 2 ^ 31 := by omega
            rw [es, hs] at k
            dsimp only at k
            refine f_Model_save_85 hF (fun _ z => ?_) (fun _ z => ?_) (fun z => absurd z (by decide))
            · rw [m1, show (40 : Int32) = nI 40 from rfl, nI_leI hlen (by decide)] at z
              rw [if_neg (by omega)] at k
              have hst : ST g' 26 (em false ls) := ⟨m1, z, fun j hj => by have := m3 j hj; rw [show 40 * 26 + j = 1040 + j by omega]; exact this⟩
              refine c_make (x := nI 26) (gz := false) (by omega) hF h' hp (by rw [b1 58 (by decide) (by decide) (by decide) (by decide) (by decide)]; exact q) q3 (hst.sl (by decide)) (by decide) (fun z => by cases z) (fun g2 h2 => ?_)
              exact f_Model_save_116 hF (k g2 h2)
            · rw [m1, show (40 : Int32) = nI 40 from rfl, nI_leI hlen (by decide)] at z
              rw [if_pos (by omega)] at k
              exact k g' h'
        · have es : sp_save σ (nI p) v = sp_make σ (p, false, σ.2.1) := by
            unfold sp_save
            rw [if_neg hdw, pgN_some hp]
            dsimp only
            rw [hN, if_neg hok, if_neg (by omega), if_pos q4]
          rw [es] at k
          refine c_make (x := nI 24) (gz := false) (by omega) hF h hp q q3 (h.dr.sl (by decide)) (by decide) (fun z => by cases z) (fun g2 h2 => ?_)
          exact f_Model_save_60 hF (k g2 h2)
      · have hok : ¬ (v < 0 ∨ nI N < v) := by
          rintro (z | z)
          · exact q1 z
          · exact absurd q2 (Int32.not_le.mpr z)
        rw [hR.2.1, show (24 : Int32) = nI 24 from rfl, nI_ltI (by omega) (by decide)] at q3
        have es : sp_save σ (nI p) v = (-4, σ) := by
          unfold sp_save
          rw [if_neg hdw, pgN_some hp]
          dsimp only
          rw [hN, if_neg hok, if_pos (by omega)]
        rw [es] at k
        exact k g h
    · have e : sp_save σ x v = (-1, σ) := by unfold sp_save; rw [if_neg hdw, pgN_none hno]
      rw [e] at k
      exact f_Model_save_11 hF (fun _ => k g h) (fun z => absurd rfl z) (fun z => absurd rfl z)
end MODN
