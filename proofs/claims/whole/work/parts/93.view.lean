/-! the class: pages are shown -/
def VS (H : AH) (g : Nat → Nat → Int32) (R : List Rv) : Prop := VW H g R ∧ g 53 3 = MK (thB R) ∧ g 56 3 = MK (thB R)
theorem VS.lf {H : AH} {g g' : Nat → Nat → Int32} {R : List Rv} (hF : Fix H) (h : VS H g R) (hf : LF g g') : VS H g' R := ⟨h.1.vf hF hf.vf, by rw [hf 53 (by decide) (by decide)]; exact h.2.1, by rw [hf 56 (by decide) (by decide)]; exact h.2.2⟩
theorem VS.f9 {H : AH} {g g' : Nat → Nat → Int32} {R : List Rv} (hF : Fix H) (h : VS H g R) (hf : F9 g g') : VS H g' R := ⟨h.1.vf hF hf.vf, by rw [hf.1 53 (by decide) (by decide)]; exact h.2.1, by rw [hf.2 3 (by decide) (by decide)]; exact h.2.2⟩
theorem S8.lf {g g' : Nat → Nat → Int32} {T : Tx} (h : S8 g T) (hf : LF g g') : S8 g' T := ⟨by rw [hf 56 (by decide) (by decide)]; exact h.1, fun j hj => by rw [hf 57 (by decide) (by decide)]; exact h.2.1 j hj, h.2.2⟩
/-- what is on the screen and what is still to come make FU, or the screen is full -/
def VE (R : List Rv) (g : Nat → Nat → Int32) (FU : Tx) (rest : List Ln) : Prop := ∃ U bf, S8 g U ∧ g 56 2 = blk bf ∧ bf ≤ 3 ∧ (U ++ rls (thC R) bf rest = FU ∨ (200 ≤ U.length ∧ ∃ V, U ++ V = FU))
def mkI (R : List Rv) (ins : List Nat) (w : Ln) : Int32 := if inc w then (match mrk R ins w with
  | some m => m
  | none => 1) else 0
theorem fCh_ok {c : Int32} (h : okc c) : fCh c = c := by
  obtain ⟨n, hn, rfl⟩ := h
  unfold fCh
  rw [if_neg (nI_pos (by omega))]
section VIEW
variable {d : Nat} {Q : Option AV → AH → Prop} {H : AH} {g g' : Nat → Nat → Int32} {x c : Int32} {w : Ln} {R : List Rv} {p : Nat} {σ : SG} {ins : List Nat} {T FU : Tx}
theorem x_isFull (hd : 1 ≤ d) (hF : Fix H) (h : S8 g T) (k1 : 200 ≤ T.length → Q (some (vI 1)) (wi H g)) (k0 : ¬ 200 ≤ T.length → Q (some (vI 0)) (wi H g)) : cwp d 47 [vR 56] (wi H g) Q :=
  e_Screen_isFull hd (hF.c 56 26 rfl) (f_Screen_isFull_0 hF (fun q => k0 (fun z => absurd (h.e200.mpr z) (Int32.not_le.mpr q))) (fun q => k1 (h.e200.mp (Int32.not_lt.mp q))))
theorem x_markFor (hd : 3 ≤ d) (hF : Fix H) (h : LC g w) (h53 : g 53 3 = MK (thB R)) (hq : ∀ q, q ∈ ins → q < 6) (hl : ins.length ≤ 4) (k : Q (some (vI (mkI R ins w))) (wi H g)) : cwp d 88 [vR 53, vI (MK (fun y => decide (y ∈ ins))), vI (nI ins.length)] (wi H g) Q := by
  refine e_Viewer_markFor (by omega) (hF.c 53 29 rfl) (f_Viewer_markFor_0 hF (x_isInclude (by omega) hF h (fun r hr => ?_)))
  unfold mkI at k
  rcases hr with ⟨hi, rfl⟩ | ⟨hi, rfl⟩
  · have hl2 : 2 < w.length := by have := hi.1; omega
    have e2 : g 55 2 = ch w 2 := h.2.2.2 2 hl2
    have o2 : okc (ch w 2) := h.2.1 2 hl2
    rw [if_pos hi] at k
    refine f_Viewer_markFor_7 (by omega) hF (fun _ => by rw [e2]; exact o2) (fun _ => ?_) (fun z => absurd z (by decide))
    rw [e2]
    refine x_pageBit (by omega) (fun hno => ?_) (fun p hp e => ?_)
    · have ht : ¬ thX R (ch w 2 - 65) = true := fun z => by
        obtain ⟨p, hp, e, -⟩ := thX_iff.mp z
        exact hno p hp e
      have em : mrk R ins w = some 63 := by unfold mrk; rw [if_neg ht]
      rw [em] at k
      exact f_Viewer_markFor_22 hF (fun z => absurd (and_0 _) z) (fun z => absurd (and_0 _) z) (fun z => absurd (and_0 _) z) (fun _ => k)
    · have et : thX R (ch w 2 - 65) = thB R p := by unfold thX; rw [e, pgN_some hp]
      have ei : ins.any (fun q => decide (nI q = ch w 2 - 65)) = decide (p ∈ ins) := by
        rw [Bool.eq_iff_iff, List.any_eq_true, decide_eq_true_iff]
        constructor
        · rintro ⟨q, hq1, hq2⟩
          have h3 := of_decide_eq_true hq2
          have h6 := hq q hq1
          rw [e, nI_eq (by omega) (by omega)] at h3
          rw [← h3]
          exact hq1
        · intro hm
          exact ⟨p, hm, decide_eq_true e.symm⟩
      have e4 : nI ins.length < 4 ↔ ins.length < 4 := by rw [show (4 : Int32) = nI 4 from rfl, nI_ltI (by omega) (by decide)]
      refine f_Viewer_markFor_22 hF (fun z z2 z3 => ?_) (fun z z2 z3 => ?_) (fun z z2 => ?_) (fun z => ?_)
      · rw [h53, MK_and hp] at z
        rw [MK_and hp] at z2
        rw [e4] at z3
        have em : mrk R ins w = none := by unfold mrk; rw [if_pos (by rw [et]; simpa using z), ei, z2, if_neg (by decide), if_neg (by omega)]
        rw [em] at k
        exact k
      · rw [h53, MK_and hp] at z
        rw [MK_and hp] at z2
        rw [e4] at z3
        have em : mrk R ins w = some 94 := by unfold mrk; rw [if_pos (by rw [et]; simpa using z), ei, z2, if_neg (by decide), if_pos (by omega)]
        rw [em] at k
        exact k
      · rw [h53, MK_and hp] at z
        rw [MK_and hp] at z2
        have em : mrk R ins w = some 33 := by unfold mrk; rw [if_pos (by rw [et]; simpa using z), ei, if_pos (by simpa using z2)]
        rw [em] at k
        exact k
      · rw [h53, MK_and hp] at z
        have em : mrk R ins w = some 63 := by unfold mrk; rw [if_neg (by rw [et, z]; decide)]
        rw [em] at k
        exact k
  · rw [if_neg hi] at k
    exact f_Viewer_markFor_7 (by omega) hF (fun z => absurd rfl z) (fun z => absurd rfl z) (fun _ => k)
theorem mrk_v {m : Int32} (h : mrk R ins w = some m) : m = 63 ∨ m = 33 ∨ m = 94 := by
  unfold mrk at h
  split at h
  · split at h
    · cases h; exact Or.inr (Or.inl rfl)
    · split at h
      · cases h; exact Or.inr (Or.inr rfl)
      · cases h
  · cases h; exact Or.inl rfl
theorem mrk_no (h : mrk R ins w = none) : thX R (ch w 2 - 65) = true ∧ ¬ ins.length = 4 := by
  unfold mrk at h
  split at h
  · rename_i q
    split at h
    · cases h
    · split at h
      · cases h
      · rename_i q2
        exact ⟨q, q2⟩
  · cases h
theorem x_expand (hF : Fix H) (hK : KT H) : ∀ (n d : Nat) (Q : Option AV → AH → Prop) (ins : List Nat) (p : Nat) (c : Int32) (g : Nat → Nat → Int32) (rest : List Ln), n + 8 ≤ d → ins.length + 1 + n = 4 → p < 6 → (∀ q, q ∈ ins → q < 6) → okc (fCh c) → VS H g R →
    VE R g FU (exl R (n + 1) (ins ++ [p]) c (LN (ntx R p)) ++ rest) → (∀ g', VF g g' → VS H g' R → VE R g' FU rest → Q none (wi H g')) → cwp d 87 [vR 53, vI (nI p), vI (fCh c), vI (MK (fun y => decide (y ∈ ins))), vI (nI (ins.length + 1))] (wi H g) Q := by
  intro n
  induction n using Nat.strongRecOn with
  | _ n ihn =>
  intro d Q ins p c g rest hd hln hp hin hc hV hE k
  obtain ⟨a1, a2, r, t, b1, b2, b3, b4, b5, b6, b7⟩ := hV.1.2 p hp
  obtain ⟨c1, c2, c3⟩ := fx_pg hF hp
  have h24 := hV.1.1
  have hle := pg_le R p
  have ep : gr H 26 (nI p).toNatClampNeg = 41 + 2 * p := by rw [nI_clamp (by omega)]; exact a2
  have er : gr H (gr H (gr H 26 (nI p).toNatClampNeg) 0) ((g (gr H 26 (nI p).toNatClampNeg) 1).toNatClampNeg) = r := by rw [ep, c2, a1, nI_clamp (by omega)]; exact b1
  refine e_Viewer_expand (by omega) (hF.c 53 29 rfl) (f_Viewer_expand_0 (by omega) hF (vp_in_nI hp (by decide)) (by rw [ep]; exact c1) (by rw [ep, c2, c3]) (by rw [ep, c2, c3, a1]; exact vp_in_nI (by show _ < 25; omega) (by decide)) (by rw [er]; exact b2) ?_)
  rw [er, b4, MK_or hp]
  have ew : MK (fun y => decide (y ∈ ins) || decide (y = p)) = MK (fun y => decide (y ∈ ins ++ [p])) := MK_congr (fun y _ => by simp)
  rw [ew]
  have hin' : ∀ q, q ∈ ins ++ [p] → q < 6 := fun q hq => by
    rcases List.mem_append.mp hq with h | h
    · exact hin q h
    · rw [List.mem_singleton.mp h]; exact hp
  have hl' : (ins ++ [p]).length = ins.length + 1 := by simp
  rw [← hl']
  generalize ins ++ [p] = ins' at *
  generalize MK (fun y => decide (y ∈ ins)) = x3
  generalize ntx R p = l at *
  have hn := nLn_le l
  have hl40 := b6.2.1
  have loop : ∀ (m j : Nat) (g1 : Nat → Nat → Int32) (u : AV), j + m = nLn l → VF g g1 → VS H g1 R → VE R g1 FU (exl R (n + 1) ins' c ((LN l).drop j) ++ rest) → wp (d - 1) sc_Viewer_expand 24 [vR 53, vI (nI p), vI (fCh c), vI x3, vI (nI ins'.length), vR t, vI (MK (fun y => decide (y ∈ ins'))), vI (nI j), u] [] (wi H g1) Q := by
    intro m
    induction m with
    | zero =>
      intro j g1 u hj hf hS hE1
      have hX := b6.of b5 (hf _ (by omega)) (hf _ (by omega)) (hf _ (by omega))
      have e : j = nLn l := by omega
      refine f_Viewer_expand_24 (by omega) hF b5.1.1 (fun _ => k g1 hf hS ?_) (fun z => absurd (by rw [hX.2.2.2.1]; exact nI_le (by omega) (by omega)) z)
      rw [e, ← LN_len, List.drop_length, exl_nil, List.nil_append] at hE1
      exact hE1
    | succ m ih =>
      intro j g1 u hj hf hS hE1
      have hX := b6.of b5 (hf _ (by omega)) (hf _ (by omega)) (hf _ (by omega))
      have hlt : j < nLn l := by omega
      obtain ⟨U, bf, s1, bk1, hb, hU⟩ := hE1
      refine f_Viewer_expand_24 (by omega) hF b5.1.1 (fun z => absurd z (by rw [hX.2.2.2.1]; exact nI_ge (by omega) (by omega))) (fun _ => x_isFull (by omega) hF s1 (fun hfu => ?_) (fun hfu => ?_))
      · refine f_Viewer_expand_41 hF (fun _ => k g1 hf hS ⟨U, bf, s1, bk1, hb, Or.inr ⟨hfu, ?_⟩⟩) (fun z => absurd z (by decide))
        rcases hU with e | e
        · exact ⟨_, e⟩
        · exact e.2
      · have hU := hU.resolve_right (fun z => hfu z.1)
        refine f_Viewer_expand_41 hF (fun z => absurd rfl z) (fun _ => x_take (by omega) hF b5 hX hlt hc (fun g2 f2 w2 => f_Viewer_expand_56 hF ?_))
        rw [← fl_fCh] at w2
        have hdr : (LN l).drop j = lnI l j :: (LN l).drop (j + 1) := drop_q (LN_get hlt)
        rw [hdr, exl_c] at hU
        generalize fl c (lnI l j) = w at w2 hU
        have S2 := hS.lf hF f2
        have s2 := s1.lf f2
        have bk2 : g2 56 2 = blk bf := by rw [f2 56 (by decide) (by decide)]; exact bk1
        have v2 : VF g g2 := hf.trans f2.vf
        have fin : ∀ (g3 : Nat → Nat → Int32) (w' : Ln) (y : Int32), LF g2 g3 → LC g3 w' → U ++ rls (thC R) bf (w' :: (exl R (n + 1) ins' c ((LN l).drop (j + 1)) ++ rest)) = FU → cwp (d - 1) 48 [vR 56, vR 54] (wi H g3) (fun r1 H1 => wp (d - 1) sc_Viewer_expand 124 [vR 53, vI (nI p), vI (fCh c), vI x3, vI (nI ins'.length), vR t, vI (MK (fun y => decide (y ∈ ins'))), vI (nI j), vI y] (r1.toList ++ []) H1 Q) := by
          intro g3 w' y f3 w3 hU3
          have S3 := S2.lf hF f3
          refine x_add (by omega) hF hK S3.2.2 w3 hb (by rw [f3 56 (by decide) (by decide)]; exact bk2) (s2.lf f3) (fun g4 f4 bk4 s4 => f_Viewer_expand_124 hF ?_)
          rw [nI_1]
          refine ih (j + 1) g4 _ (by omega) ((v2.trans f3.vf).trans f4.vf) (S3.f9 hF f4) ⟨_, kn w', s4, bk4, kn_le w', Or.inl ?_⟩
          rw [List.append_assoc]
          rw [rls] at hU3
          exact hU3
        refine x_markFor (by omega) hF w2 S2.2.1 hin' (by omega) ?_
        by_cases hi : inc w
        · have hl2 : w.length = 5 ∨ w.length = 6 := hi.1
          rw [if_pos hi] at hU
          cases hm : mrk R ins' w with
          | some mk =>
            have em : mkI R ins' w = mk := by unfold mkI; rw [if_pos hi, hm]
            rw [hm] at hU
            rw [em]
            have hv := mrk_v hm
            have h0 : ¬ mk = 0 := by rcases hv with rfl | rfl | rfl <;> decide
            have h1 : ¬ mk = 1 := by rcases hv with rfl | rfl | rfl <;> decide
            have ho : okc mk := by
              rcases hv with rfl | rfl | rfl
              · exact ⟨63, by decide, rfl⟩
              · exact ⟨33, by decide, rfl⟩
              · exact ⟨94, by decide, rfl⟩
            refine f_Viewer_expand_64 (by omega) hF (fun _ z => absurd z h0) (fun _ _ => ?_) (fun z => absurd z h1)
            exact x_mark (by omega) hF w2 (by omega) ho (fun g3 f3 w3 => f_Viewer_expand_113 hF (fin g3 _ _ f3 w3 hU))
          | none =>
            have em : mkI R ins' w = 1 := by unfold mkI; rw [if_pos hi, hm]
            rw [hm] at hU
            rw [em]
            obtain ⟨hth, hn4⟩ := mrk_no hm
            obtain ⟨q6, qe, qt⟩ := thX_p hth
            have e2 : g2 55 2 = ch w 2 := w2.2.2.2 2 (by omega)
            have ec : (if w.length = 6 then ch w 3 else 36) = fCh (if w.length = 6 then ch w 3 else -1) := by
              split
              · exact (fCh_ok (c := ch w 3) (w2.2.1 3 (by omega))).symm
              · decide
            have oc : okc (fCh (if w.length = 6 then ch w 3 else -1)) := by
              rw [← ec]
              split
              · exact w2.2.1 3 (by omega)
              · exact ⟨36, by decide, rfl⟩
            obtain ⟨n', hn'⟩ : ∃ n', n = n' + 1 := ⟨n - 1, by omega⟩
            refine f_Viewer_expand_64 (by omega) hF (fun z => absurd rfl z) (fun z => absurd rfl z) (fun _ => ?_)
            refine x_filler (by omega) hF w2 hl2 (f_Viewer_expand_87 hF ?_)
            rw [e2, qe, ec, nI_1]
            refine ihn n' (by omega) (d - 1) _ ins' _ _ g2 (exl R (n + 1) ins' c ((LN l).drop (j + 1)) ++ rest) (by omega) (by omega) q6 hin' oc S2 ⟨U, bf, s2, bk2, hb, Or.inl ?_⟩ (fun g3 v3 S3 E3 => f_Viewer_expand_96 hF ?_)
            · rw [← hn', ← List.append_assoc]
              exact hU
            · rw [nI_1]
              exact ih (j + 1) g3 _ (by omega) (v2.trans v3) S3 E3
        · have em : mkI R ins' w = 0 := by unfold mkI; rw [if_neg hi]
          rw [if_neg hi] at hU
          rw [em]
          exact f_Viewer_expand_64 (by omega) hF (fun _ _ => fin g2 _ _ LF.rf w2 hU) (fun _ z => absurd rfl z) (fun z => absurd z (by decide))
  exact loop (nLn l) 0 g _ (by omega) VF.rf hV (by rw [List.drop_zero]; exact hE)
theorem x_findThere (hd : 2 ≤ d) (hF : Fix H) (hV : VW H g R) (k : Q (some (vI (MK (thB R)))) (wi H g)) : cwp d 86 [vR 53] (wi H g) Q := by
  refine e_Viewer_findPagesThere (by omega) (hF.c 53 29 rfl) (f_Viewer_findPagesThere_0 hF ?_)
  have loop : ∀ m y, y + m = 6 → wp (d - 1) sc_Viewer_findPagesThere 4 [vR 53, vI (MK (fun z => decide (z < y) && thB R z)), vI (nI y)] [] (wi H g) Q := by
    intro m
    induction m with
    | zero =>
      intro y hy
      have e : y = 6 := by omega
      subst e
      refine f_Viewer_findPagesThere_4 hF (fun z => absurd (by decide) z) (fun _ => ?_) (fun q => absurd (by decide) q)
      rw [MK_congr (B' := thB R) (fun y hy => by rw [decide_eq_true hy, Bool.true_and])]
      exact k
    | succ m ih =>
      intro y hy
      have hy6 : y < 6 := by omega
      obtain ⟨a1, a2, r, t, b1, b2, b3, -⟩ := hV.2 y hy6
      obtain ⟨c1, c2, c3⟩ := fx_pg hF hy6
      have h24 := hV.1
      have hle := pg_le R y
      have ep : gr H 26 (nI y).toNatClampNeg = 41 + 2 * y := by rw [nI_clamp (by omega)]; exact a2
      have h2 := ih (y + 1) (by omega)
      refine f_Viewer_findPagesThere_4 hF (fun _ => vp_in_nI hy6 (by decide)) (fun q => absurd q (by rw [show (6 : Int32) = nI 6 from rfl]; exact nI_ge hy6 (by decide))) (fun _ => ?_)
      rw [ep]
      have er : gr (wi H g) (gr (wi H g) (41 + 2 * y) 0) (gi (wi H g) (41 + 2 * y) 1).toNatClampNeg = r := by rw [wi_gr, wi_gr, wi_gi, a1, c2, nI_clamp (by omega)]; exact b1
      refine e_Page_isThere (by omega) c1 (t_Page_isThere_0 c1 (by rw [wi_kd, wi_gr, c2, c3]) (by rw [wi_kd, wi_gr, c2, c3, wi_gi, a1]; exact vp_in_nI (by show _ < 25; omega) (by decide)) (by rw [er]; exact b2) (fun q => ?_) (fun q => ?_))
      · rw [er, wi_gi, b3, zB_0] at q
        have q2 : thB R y = false := by simpa using q
        rw [MK_congr (B' := fun z => decide (z < y) && thB R z) (fun z _ => by
          by_cases e : z = y
          · subst e
            simp [q2]
          · rw [show decide (z < y + 1) = decide (z < y) from decide_eq_decide.mpr (by omega)])] at h2
        refine f_Viewer_findPagesThere_19 hF (fun _ => ?_) (fun z => absurd rfl z)
        rw [nI_1]
        exact h2
      · rw [er, wi_gi, b3, zB_0] at q
        have q2 : thB R y = true := by simpa using q
        rw [MK_congr (B' := fun z => (decide (z < y) && thB R z) || decide (z = y)) (fun z _ => by
          by_cases e : z = y
          · subst e
            simp [q2]
          · rw [show decide (z = y) = false from decide_eq_false e, Bool.or_false, show decide (z < y + 1) = decide (z < y) from decide_eq_decide.mpr (by omega)])] at h2
        refine f_Viewer_findPagesThere_19 hF (fun z => absurd z (by decide)) (fun _ => ?_)
        rw [nI_1, MK_or hy6]
        exact h2
  have h3 := loop 6 0 (by omega)
  rw [MK_congr (B' := fun _ => false) (fun y _ => by simp), MK_0] at h3
  exact h3
theorem x_view (hd : 13 ≤ d) (hF : Fix H) (hK : KT H) (hV : VW H g R) (hp : p < 6) (k : ∀ g' T, VF g g' → S8 g' T → T.take 200 = (full R p).take 200 → Q (some (vI (g' 56 1))) (wi H g')) : cwp d 83 [vR 53, vI (nI p)] (wi H g) Q := by
  refine e_Viewer_view (by omega) (hF.c 53 29 rfl) (f_Viewer_view_0 hF (x_findThere (by omega) hF hV (f_Viewer_view_5 hF (e_Screen_begin (by omega) (hF.c 56 26 rfl) (f_Screen_begin_0 hF (f_Viewer_view_19 hF ?_))))))
  generalize hg2 : sm_u2 (sm_u2 (sm_u2 (sm_u2 g 53 3 (MK (thB R))) 56 1 0) 56 2 0) 56 3 (MK (thB R)) = g2
  have v2 : VF g g2 := fun a ha => by rw [← hg2, u2_na (by omega), u2_na (by omega), u2_na (by omega), u2_na (by omega)]
  have S2 : VS H g2 R := ⟨hV.vf hF v2, by rw [← hg2, u2_na (by decide), u2_na (by decide), u2_na (by decide), u2_self], by rw [← hg2, u2_self]⟩
  have s2 : S8 g2 [] := ⟨by rw [← hg2, u2_ne (Or.inr (by decide)), u2_ne (Or.inr (by decide)), u2_self]; rfl, fun j hj => absurd hj (by simp), fun j hj => absurd hj (by simp)⟩
  have b2 : g2 56 2 = blk 0 := by rw [← hg2, u2_ne (Or.inr (by decide)), u2_self]; rfl
  clear hg2
  have hx := x_expand (FU := full R p) (R := R) hF hK 3 (d - 1) (fun r1 H1 => wp (d - 1) sc_Viewer_view 28 [vR 53, vI (nI p)] (r1.toList ++ []) H1 Q) [] p (-1) g2 [] (by omega) rfl hp (fun q hq => by cases hq) ⟨36, by decide, by decide⟩ S2 ⟨[], 0, s2, b2, by decide, Or.inl (by rw [List.append_nil]; rfl)⟩ (fun g3 v3 S3 E3 => by
    obtain ⟨U, bf, s3, bk3, hb, hU⟩ := E3
    refine f_Viewer_view_28 hF (x_endBlock (by omega) hF hK hb bk3 s3 (fun g4 f4 b4 s4 => f_Viewer_view_35 (by omega) hF (k g4 (U ++ clo bf 0) ((v2.trans v3).trans f4.vf) s4 ?_)))
    rcases hU with e | ⟨hl, V, e⟩
    · rw [rls] at e
      rw [e]
    · rw [← e, List.take_append_of_le_length hl, List.take_append_of_le_length hl])
  rw [MK_congr (B' := fun _ => false) (fun y _ => by simp), MK_0, show fCh (-1) = 36 by decide] at hx
  exact hx
theorem RVc.vf {K r n : Nat} {P : List (Bool × Tx)} {e : Bool × Tx} (h : RVc H g K r P n e) (hf : VF g g') : RVc H g' K r P n e := by
  obtain ⟨h1, h2, h3, h4, h5, h6, h7, h8, h9⟩ := h
  have er : g' r = g r := hf r (by omega)
  have et : ∀ b, b ≤ 2 → g' (gr H r 0 + b) = g (gr H r 0 + b) := fun b hb => hf _ (by omega)
  exact ⟨h1, h2, h3, h4, h5, h6.of h5 (et 0 (by decide)) (et 1 (by decide)) (et 2 (by decide)), by rw [er]; exact h7, by rw [er]; exact h8, by rw [er]; exact h9⟩
theorem PGc.vf {K : Nat} (h : PGc H g K R) (hf : VF g g') : PGc H g' K R := by
  obtain ⟨h1, h2, h3, h4⟩ := h
  refine ⟨h1, by rw [hf 19 (by decide)]; exact h2, h3, fun p hp => ?_⟩
  obtain ⟨a1, a2, a3⟩ := h4 p hp
  exact ⟨by rw [hf _ (by omega)]; exact a1, a2, fun n e hn he => (a3 n e hn he).vf hf⟩
theorem tf_take {j n : Nat} (h : j < n) : tf (T.take n) j = tf T j := by
  unfold tf
  rw [List.getD_eq_getElem?_getD, List.getD_eq_getElem?_getD, List.getElem?_take, if_pos h]
theorem CI.shw (h : CI H g σ) (hf : VF g g') (hs : S8 g' T) : CI H g' (σ.1, σ.2.1, σ.2.2.1, σ.2.2.2.1, σ.2.2.2.2.1, σ.2.2.2.2.2.1, σ.2.2.2.2.2.2.1, σ.2.2.2.2.2.2.2.1, σ.2.2.2.2.2.2.2.2.1, T.take 200) := by
  obtain ⟨hF, h20, ⟨l36, h36⟩, hr⟩ := h
  obtain ⟨K, D, R, ct, wr, dw, cl, nb, pd, scr⟩ := σ
  obtain ⟨hK, gK, h23, h40, hP, hJ, hd, -⟩ := hr
  have hl : (T.take 200).length = min 200 T.length := List.length_take
  refine ⟨hF, h20.of hF.t20 (hf 20 (by decide)) (hf 21 (by decide)) (hf 22 (by decide)), ⟨l36, h36.of hF.t36 (hf 36 (by decide)) (hf 37 (by decide)) (hf 38 (by decide))⟩, hK, by rw [hf 19 (by decide)]; exact gK, h23.of hF.t23 (hf 23 (by decide)) (hf 24 (by decide)) (hf 25 (by decide)), by rw [hf 40 (by decide)]; exact h40, hP.vf hf, by rw [hf 39 (by decide)]; exact hJ, fun q => ?_, by rw [hl]; omega, fun j hj => ?_, by rw [hl]; exact hs.1, fun j hj => ?_⟩
  · obtain ⟨a1, a2, a3, a4, a5, a6, a7, a8⟩ := hd q
    exact ⟨by rw [hf 39 (by decide)]; exact a1, by rw [hf 39 (by decide)]; exact a2, a3, by rw [hf 19 (by decide)]; exact a4, a5, a6, a7, a8.vf hf⟩
  · rw [hl] at hj
    rw [tf_take (by omega)]
    exact hs.2.2 j (by omega)
  · rw [hl] at hj
    rw [tf_take (by omega)]
    exact hs.2.1 j hj
theorem x_show (hd : 14 ≤ d) (hK : KT H) (h : CI H g σ) (k : ∀ g', CI H g' (sp_show σ x).2 → Q (some (vI (sp_show σ x).1)) (wi H g')) : cwp d 105 [vR 19, vI x] (wi H g) Q := by
  have hF := h.1
  unfold sp_show at k
  refine e_P_show (by omega) (hF.c 19 30 rfl) (f_P_show_0 hF (x_there (by omega) h ?_))
  unfold sp_there
  by_cases hw : σ.2.2.2.2.2.1 = true
  · rw [if_pos hw] at k ⊢
    exact f_P_show_5 hF (fun _ => k g h) (fun z => absurd rfl z)
  · rw [if_neg hw] at k ⊢
    by_cases ht : thX σ.2.2.1 x = true
    · rw [if_pos ht] at k ⊢
      obtain ⟨q6, qe, qt⟩ := thX_p ht
      generalize x.toNatClampNeg = p at *
      subst qe
      refine f_P_show_5 hF (fun z => absurd z (by decide)) (fun _ => x_view (by omega) hF hK h.vw q6 (fun g' T vf s e => f_P_show_16 hF ?_))
      have h2 := h.shw vf s
      rw [e] at h2
      have hl : min 200 T.length = min 200 (full σ.2.2.1 p).length := by rw [← List.length_take, e, List.length_take]
      rw [s.1, hl]
      exact k g' h2
    · rw [if_neg ht] at k ⊢
      exact f_P_show_5 hF (fun _ => k g h) (fun z => absurd rfl z)
end VIEW
