/-! the reference: show -/
theorem SO.xx {g g' : Nat → Nat → Int32} {T : Tx} (h : SO g T) (h1 : g' 58 21 = g 58 21) (h2 : g' 70 = g 70) : SO g' T := ⟨by rw [h1]; exact h.1, fun j hj => by rw [h2]; exact h.2 j hj⟩
section MODU
variable {d : Nat} {Q : Option AV → AH → Prop} {H : AH} {g : Nat → Nat → Int32} {x y z a b x1 : Int32} {T FU : Tx} {w : Ln} {R : List Rv}
theorem lm_full {bf : Nat} {u3 u4 : AV} {g1 : Nat → Nat → Int32} {U V : Tx} (hd : 2 ≤ d) (hF : Fix H) (hbf : bf ≤ 3) (kf : ∀ g', XF g g' → SO g' FU → Q (some (vI (g' 58 21))) (wi H g')) (hx : XF g g1) (hs : SO g1 U) (hl : 200 ≤ U.length) (hU : U ++ V = FU) :
    wp d sc_Model_show 35 [vR 58, vI x1, vI (nI bf), u3, u4] [] (wi H g1) Q :=
  lm_x hd hF hbf hs (Or.inr hl) (fun g' f' s' => kf g' (hx.trans f'.xf) (by rw [← hU]; exact s'.cut hl))
theorem thX_p {x : Int32} (h : thX R x = true) : x.toNatClampNeg < 6 ∧ x = nI x.toNatClampNeg ∧ thB R x.toNatClampNeg = true := by
  obtain ⟨p, hp, rfl, ht⟩ := thX_iff.mp h
  rw [nI_clamp (by omega)]
  exact ⟨hp, rfl, thB_iff.mpr ht⟩
theorem lm_show (hd : 4 ≤ d) (hF : Fix H) (hR : RRv g R) (kf : ∀ g', XF g g' → SO g' FU → Q (some (vI (g' 58 21))) (wi H g')) :
    ∀ (n : Nat) (F : List (Nat × Nat × Int32)) (p : Nat) (c : Int32) (rest : List Ln), F.length + 1 + n = 4 → p < 6 → thB R p = true →
    (∀ g2 U2 bf2 u3 u4, XF g g2 → FR g2 F → g2 58 16 = nI F.length → SO g2 U2 → bf2 ≤ 3 → U2 ++ rls (thC R) bf2 rest = FU → wp d sc_Model_show 35 [vR 58, vI x1, vI (nI bf2), u3, u4] [] (wi H g2) Q) →
    ∀ (m j : Nat) (g1 : Nat → Nat → Int32) (U : Tx) (bf : Nat) (u3 u4 : AV), j + m = nLn (ntx R p) → XF g g1 → FR g1 (F ++ [(p, po (ntx R p) j, c)]) → g1 58 16 = nI (F.length + 1) → SO g1 U → bf ≤ 3 →
    U ++ rls (thC R) bf (exl R (n + 1) (F.map (fun f => f.1) ++ [p]) c ((LN (ntx R p)).drop j) ++ rest) = FU → wp d sc_Model_show 35 [vR 58, vI x1, vI (nI bf), u3, u4] [] (wi H g1) Q := by
  intro n
  induction n using Nat.strongRecOn with
  | ind n ihn =>
  intro F p c rest hn hp ht k m
  induction m with
  | zero =>
    intro j g1 U bf u3 u4 hj hx hf hD hs hbf hU
    by_cases hl : 200 ≤ U.length
    · exact lm_full (by omega) hF hbf kf hx hs hl hU
    have hR1 := hR.xf hx
    have h24 := hR.1
    have t67 : g1 67 F.length = nI p := hf.top.1
    have t68 : g1 68 F.length = nI (po (ntx R p) j) := hf.top.2.1
    have t69 : g1 69 F.length = c := hf.top.2.2
    have e200 : ¬ (200 : Int32) ≤ g1 58 21 := by rw [hs.1, show (200 : Int32) = nI 200 from rfl, nI_leI (by decide) (by omega)]; omega
    have e16 : ¬ g1 58 16 ≤ 0 := by rw [hD]; exact nI_ge (a := 0) (by omega) (by omega)
    have eD : g1 58 16 - 1 = nI F.length := by rw [hD]; exact nI_sub1 _
    have eC : (g1 58 16 - 1).toNatClampNeg = F.length := by rw [eD]; exact nI_clamp (by omega)
    have e : j = nLn (ntx R p) := by omega
    refine f_Model_show_35 hF (fun _ _ => by rw [eD]; exact vp_in_nI (by omega) (by decide)) (fun q => absurd q e16) (fun q => absurd q e16) (fun q => absurd q e16) (fun _ q => absurd q e200) (fun _ q => absurd q e200) (fun _ q => absurd q e200) (fun _ _ => ?_)
    rw [eC, t67, eD]
    refine c_count (by omega) hF hR1 hp ?_
    have hpl := pg_le R p
    refine f_Model_show_76 hF (c_find (by omega) hF hR1 hp (by omega) (fun r hr => ?_))
    rcases hr with ⟨i, e2, rfl, b1, b2, b3⟩ | ⟨rfl, hr⟩
    · have hi : i < R.length := (List.getElem?_eq_some_iff.mp b1).1
      obtain ⟨a1, a2, a3, a4⟩ := hR1.2.2 i _ b1
      have et : ntx R p = e2.2 := by
        unfold ntx rtx
        rw [if_neg (by omega), List.getD_eq_getElem?_getD, b3]
        rfl
      have hst : ST g1 i (ntx R p) := by rw [et]; exact a3.st (by omega)
      have hle := hst.2.1
      refine f_Model_show_79 hF (vp_in_nI (by omega) (by decide)) (vp_in_nI (by omega) (by decide)) (fun q => ?_) (fun _ => ?_)
      · rw [nI_clamp (by omega), nI_clamp (by omega), t68, hst.1, e] at q
        rw [po_n, nI_leI (by omega) (by omega)] at q
        omega
      · rw [eD]
        refine k _ U bf _ _ (hx.trans ⟨fun a q1 _ _ _ _ _ => u2_na q1, fun j _ q _ => u2_ne (Or.inr q)⟩) (hf.ini.eq (fun i _ => ⟨by rw [u2_na (by decide)], by rw [u2_na (by decide)], by rw [u2_na (by decide)]⟩)) u2_self (hs.xx (u2_ne (Or.inr (by decide))) (u2_na (by decide))) hbf ?_
        rw [e, ← LN_len, List.drop_length, exl_nil, List.nil_append] at hU
        exact hU
    · obtain ⟨e2, he, -⟩ := thB_iff.mp ht
      have : pg R p = [] := List.length_eq_zero_iff.mp (by omega)
      rw [this] at he
      cases he
  | succ m ih =>
    intro j g1 U bf u3 u4 hj hx hf hD hs hbf hU
    by_cases hl : 200 ≤ U.length
    · exact lm_full (by omega) hF hbf kf hx hs hl hU
    have hR1 := hR.xf hx
    have h24 := hR.1
    have t67 : g1 67 F.length = nI p := hf.top.1
    have t68 : g1 68 F.length = nI (po (ntx R p) j) := hf.top.2.1
    have t69 : g1 69 F.length = c := hf.top.2.2
    have e200 : ¬ (200 : Int32) ≤ g1 58 21 := by rw [hs.1, show (200 : Int32) = nI 200 from rfl, nI_leI (by decide) (by omega)]; omega
    have e16 : ¬ g1 58 16 ≤ 0 := by rw [hD]; exact nI_ge (a := 0) (by omega) (by omega)
    have eD : g1 58 16 - 1 = nI F.length := by rw [hD]; exact nI_sub1 _
    have eC : (g1 58 16 - 1).toNatClampNeg = F.length := by rw [eD]; exact nI_clamp (by omega)
    have hlt : j < nLn (ntx R p) := by omega
    obtain ⟨p1, p2⟩ := po_lt hlt
    refine f_Model_show_35 hF (fun _ _ => by rw [eD]; exact vp_in_nI (by omega) (by decide)) (fun q => absurd q e16) (fun q => absurd q e16) (fun q => absurd q e16) (fun _ q => absurd q e200) (fun _ q => absurd q e200) (fun _ q => absurd q e200) (fun _ _ => ?_)
    rw [eC, t67, eD]
    refine c_count (by omega) hF hR1 hp ?_
    have hpl := pg_le R p
    refine f_Model_show_76 hF (c_find (by omega) hF hR1 hp (by omega) (fun r hr => ?_))
    rcases hr with ⟨i, e2, rfl, b1, b2, b3⟩ | ⟨rfl, hr⟩
    · have hi : i < R.length := (List.getElem?_eq_some_iff.mp b1).1
      obtain ⟨a1, a2, a3, a4⟩ := hR1.2.2 i _ b1
      have et : ntx R p = e2.2 := by
        unfold ntx rtx
        rw [if_neg (by omega), List.getD_eq_getElem?_getD, b3]
        rfl
      have hst : ST g1 i (ntx R p) := by rw [et]; exact a3.st (by omega)
      have hle := hst.2.1
      have cF : (nI F.length).toNatClampNeg = F.length := nI_clamp (by omega)
      refine f_Model_show_79 hF (vp_in_nI (by omega) (by decide)) (vp_in_nI (by omega) (by decide)) (fun _ => ?_) (fun q => ?_)
      · rw [cF, t68, t69]
        rw [p1]
        refine c_look (by omega) hF (by omega) hst hlt (fun g2 n2 w2 => ?_)
        refine f_Model_show_133 hF (vp_in_nI (by omega) (by decide)) ?_
        rw [cF, ← po_s hlt]
        generalize hg3 : sm_u2 g2 68 F.length (nI (po (ntx R p) (j + 1))) = g3
        have x3 : XF g1 g3 := n2.xf.trans (by rw [← hg3]; exact ⟨fun a _ _ _ q _ _ => u2_na q, fun j _ _ _ => u2_ne (Or.inl (by decide))⟩)
        have f3 : FR g3 (F ++ [(p, po (ntx R p) (j + 1), c)]) := by
          rw [← hg3]
          refine FR.mk (hf.ini.eq (fun i hi => ⟨?_, ?_, ?_⟩)) ⟨?_, u2_self, ?_⟩
          · rw [u2_na (by decide), n2.1 67 (by decide) (by decide)]
          · rw [u2_ne (Or.inr (by omega)), n2.1 68 (by decide) (by decide)]
          · rw [u2_na (by decide), n2.1 69 (by decide) (by decide)]
          · rw [u2_na (by decide), n2.1 67 (by decide) (by decide)]; exact t67
          · rw [u2_na (by decide), n2.1 69 (by decide) (by decide)]; exact t69
        have D3 : g3 58 16 = nI (F.length + 1) := by rw [← hg3, u2_na (by decide), n2.2 16 (by decide)]; exact hD
        have s3 : SO g3 U := hs.xx (by rw [← hg3, u2_na (by decide), n2.2 21 (by decide)]) (by rw [← hg3, u2_na (by decide), n2.1 70 (by decide) (by decide)])
        have w3 : LW g3 (fl c (lnI (ntx R p) j)) := ⟨w2.1, by rw [← hg3, u2_na (by decide)]; exact w2.2.1, fun q hq => by rw [← hg3, u2_na (by decide)]; exact w2.2.2 q hq⟩
        have R3 := hR1.xf x3
        clear hg3
        have hdr : (LN (ntx R p)).drop j = lnI (ntx R p) j :: (LN (ntx R p)).drop (j + 1) := drop_q (LN_get hlt)
        rw [hdr, exl_c] at hU
        generalize lnI (ntx R p) j = w0 at *
        have shw : ∀ (g4 : Nat → Nat → Int32) (w' : Ln), XF g1 g4 → FR g4 (F ++ [(p, po (ntx R p) (j + 1), c)]) → g4 58 16 = nI (F.length + 1) → SO g4 U → LW g4 w' → U ++ rls (thC R) bf (w' :: (exl R (n + 1) (F.map (fun f => f.1) ++ [p]) c ((LN (ntx R p)).drop (j + 1)) ++ rest)) = FU →
            cwp d 165 [vR 58, vI (nI bf)] (wi H g4) (fun r1 H1 => wp d sc_Model_show 188 [vR 58, vI x1, vI (nI bf), vI (nI F.length), vI (nI i)] (r1.toList ++ []) H1 Q) := by
          intro g4 w' x4 f4 D4 s4 w4 hU4
          refine c_render hd hF hbf (hR1.xf x4) w4 s4 (fun g5 f5 s5 => f_Model_show_188 hF (c_kind (by omega) hF (w4.sf f5) (f_Model_show_192 hF ?_)))
          refine ih (j + 1) g5 _ (kn w') _ _ (by omega) ((hx.trans x4).trans f5.xf) (f4.eq (fun i _ => ⟨by rw [f5.1 67 (by decide) (by decide)], by rw [f5.1 68 (by decide) (by decide)], by rw [f5.1 69 (by decide) (by decide)]⟩)) (by rw [f5.2 16 (by decide)]; exact D4) s5 (kn_le w') ?_
          rw [List.append_assoc]
          rw [rls] at hU4
          exact hU4
        refine c_includes (by omega) hF w3 (fun r hr => ?_)
        rcases hr with ⟨hin, rfl⟩ | ⟨hin, rfl⟩
        · rw [if_pos hin] at hU
          refine f_Model_show_138 hF (fun q => absurd q (by decide)) (fun _ => ?_)
          have hlen := hin.1
          refine c_barred (ins := F.map (fun f => f.1) ++ [p]) (by omega) hF R3 w3 hin (fun i q hq => ?_) (by rw [D3]; simp) (by simp; omega) (fun hm => ?_) (fun mk g4 hm n4 w4 => ?_)
          · have hq2 : ((F ++ [(p, po (ntx R p) (j + 1), c)]).map (fun f => f.1))[i]? = some q := by rw [List.map_append]; exact hq
            rw [List.getElem?_map] at hq2
            cases hfi : (F ++ [(p, po (ntx R p) (j + 1), c)])[i]? with
            | none => rw [hfi] at hq2; cases hq2
            | some f =>
              rw [hfi] at hq2
              cases hq2
              exact (f3 i f hfi).1
          · rw [hm] at hU
            have hth : thX R (ch (fl c w0) 2 - 65) = true := by
              unfold mrk at hm
              split at hm
              · rename_i q; exact q
              · cases hm
            have hn3 : ¬ F.length + 1 = 4 := by
              intro q
              unfold mrk at hm
              rw [if_pos hth] at hm
              split at hm
              · cases hm
              · rw [if_pos (by simp; omega)] at hm
                cases hm
            obtain ⟨q6, qe, qt⟩ := thX_p hth
            generalize hpx : (ch (fl c w0) 2 - 65).toNatClampNeg = px at *
            have e66 : g3 66 2 = ch (fl c w0) 2 := w3.2.2 2 (by omega)
            have l6 : g3 58 15 = 6 ↔ (fl c w0).length = 6 := by rw [w3.2.1, show (6 : Int32) = nI 6 from rfl, nI_eq (by omega) (by decide)]
            obtain ⟨n', hn'⟩ : ∃ n', n = n' + 1 := ⟨n - 1, by omega⟩
            have ent : ∀ c', (if (fl c w0).length = 6 then ch (fl c w0) 3 else -1) = c' → cwp d 167 [vR 58, vI (nI px), vI c'] (wi H g3) (fun r1 H1 => wp d sc_Model_show 180 [vR 58, vI x1, vI (nI bf), vI (nI F.length), vI (nI i)] (r1.toList ++ []) H1 Q) := by
              intro c' hc'
              rw [hc'] at hU
              have hFl : (F ++ [(p, po (ntx R p) (j + 1), c)]).length = F.length + 1 := by simp
              refine c_enterPage (F := F ++ [(p, po (ntx R p) (j + 1), c)]) (by omega) hF (by rw [D3, hFl]) (by rw [hFl]; omega) f3 (fun g5 x5 f5 D5 o5 o5' => f_Model_show_180 hF ?_)
              refine ihn n' (by omega) (F ++ [(p, po (ntx R p) (j + 1), c)]) px c' (exl R (n + 1) (F.map (fun f => f.1) ++ [p]) c ((LN (ntx R p)).drop (j + 1)) ++ rest) (by rw [hFl]; omega) q6 qt (fun g6 U6 bf6 u3 u4 x6 f6 D6 s6 hb6 hU6 => ?_) (nLn (ntx R px)) 0 g5 U bf _ _ (by omega) ((hx.trans x3).trans x5) (by rw [po_0]; exact f5) (by rw [D5]) (s3.xx o5 o5') hbf ?_
              · refine ih (j + 1) g6 U6 bf6 u3 u4 (by omega) x6 f6 (by rw [D6, hFl]) s6 hb6 hU6
              · rw [List.map_append, List.drop_zero, ← hn', ← List.append_assoc]
                exact hU
            refine f_Model_show_145 hF (fun q => absurd rfl q) (fun _ q => ?_) (fun _ q => ?_)
            · rw [l6] at q
              rw [e66, qe]
              exact ent _ (if_neg q)
            · rw [l6] at q
              rw [e66, qe, w3.2.2 3 (by omega)]
              exact ent _ (if_pos q)
          · rw [hm] at hU
            refine f_Model_show_145 hF (fun _ => ?_) (fun q => absurd q (by decide)) (fun q => absurd q (by decide))
            refine shw g4 _ (x3.trans n4.xf) (f3.eq (fun i _ => ⟨by rw [n4.1 67 (by decide) (by decide)], by rw [n4.1 68 (by decide) (by decide)], by rw [n4.1 69 (by decide) (by decide)]⟩)) (by rw [n4.2 16 (by decide)]; exact D3) (s3.xx (n4.2 21 (by decide)) (n4.1 70 (by decide) (by decide))) w4 ?_
            exact hU
        · rw [if_neg hin] at hU
          exact f_Model_show_138 hF (fun _ => shw g3 _ x3 f3 D3 s3 w3 hU) (fun q => absurd rfl q)
      · rw [nI_clamp (by omega), nI_clamp (by omega), t68, hst.1] at q
        rw [p1] at q
        exact absurd (nI_le p2 (by omega)) q
    · obtain ⟨e2, he, -⟩ := thB_iff.mp ht
      have : pg R p = [] := List.length_eq_zero_iff.mp (by omega)
      rw [this] at he
      cases he
/-- what is shown -/
def sp_show (σ : SG) (x : Int32) : Int32 × SG := if σ.2.2.2.2.2.1 = true then (-1, σ) else if thX σ.2.2.1 x = true then (nI (min 200 (full σ.2.2.1 x.toNatClampNeg).length), σ.1, σ.2.1, σ.2.2.1, σ.2.2.2.1, σ.2.2.2.2.1, σ.2.2.2.2.2.1, σ.2.2.2.2.2.2.1, σ.2.2.2.2.2.2.2.1, σ.2.2.2.2.2.2.2.2.1, (full σ.2.2.1 x.toNatClampNeg).take 200) else (-1, σ)
theorem RI.shw {σ : SG} {g' : Nat → Nat → Int32} {U : Tx} (h : RI g σ) (hx : XF g g') (hs : SO g' U) : RI g' (σ.1, σ.2.1, σ.2.2.1, σ.2.2.2.1, σ.2.2.2.2.1, σ.2.2.2.2.2.1, σ.2.2.2.2.2.2.1, σ.2.2.2.2.2.2.2.1, σ.2.2.2.2.2.2.2.2.1, U.take 200) := by
  obtain ⟨K, D, R, ct, wr, dw, cl, nb, pd, scr⟩ := σ
  obtain ⟨hK, gK, gD, hR, hct, hwr, hdw, hpd, hsc, hs2, hs3⟩ := h
  have o : ∀ a, a ≠ 58 → a < 66 → g' a = g a := fun a h1 h2 => hx.1 a h1 (by omega) (by omega) (by omega) (by omega) (by omega)
  have st : ∀ s l, ST g s l → ST g' s l := fun s l q => ⟨by rw [o 60 (by decide) (by decide)]; exact q.1, q.2.1, fun j hj => by rw [o 59 (by decide) (by decide)]; exact q.2.2 j hj⟩
  have f : ∀ j, j < 15 → g' 58 j = g 58 j := fun j hj => hx.2 j (by omega) (by omega) (by omega)
  have hl : (U.take 200).length = min 200 U.length := List.length_take
  refine ⟨hK, by rw [f 5 (by decide)]; exact gK, st _ _ gD, hR.xf hx, by rw [f 10 (by decide)]; exact hct, by rw [f 13 (by decide)]; exact hwr, by rw [f 9 (by decide)]; exact hdw, fun q => ?_, by rw [hl]; omega, by rw [hl]; exact hs.1, fun j hj => ?_⟩
  · obtain ⟨a1, a2, a3, a4, a5, a6, a7, a8⟩ := hpd q
    exact ⟨by rw [f 12 (by decide)]; exact a1, by rw [f 11 (by decide)]; exact a2, a3, st _ _ a4, by rw [o 61 (by decide) (by decide)]; exact a5, by rw [o 62 (by decide) (by decide)]; exact a6, a7, a8⟩
  · rw [hl] at hj
    rw [hs.2 j hj]
    unfold tf
    rw [List.getD_eq_getElem?_getD, List.getD_eq_getElem?_getD, List.getElem?_take, if_pos (by omega)]
theorem r_show {σ : SG} (hd : 5 ≤ d) (hF : Fix H) (h : RI g σ) (k : ∀ g', RI g' (sp_show σ x).2 → Q (some (vI (sp_show σ x).1)) (wi H g')) : cwp d 168 [vR 58, vI x] (wi H g) Q := by
  refine e_Model_show (by omega) (hF.c 58 31 rfl) (f_Model_show_0 hF (fun q => ?_) (fun q => ?_))
  · rw [h.dn0] at q
    unfold sp_show at k
    rw [if_pos (by simpa using q)] at k
    exact k g h
  · have hdw : ¬ σ.2.2.2.2.2.1 = true := h.dn0.mp q
    unfold sp_show at k
    rw [if_neg hdw] at k
    refine c_isThere (by omega) hF h.rr (fun r hr => ?_)
    rw [← thX_iff] at hr
    rcases hr with ⟨ht, rfl⟩ | ⟨ht, rfl⟩
    · rw [if_pos ht] at k
      obtain ⟨q6, qe, qt⟩ := thX_p ht
      generalize hp : x.toNatClampNeg = p at *
      subst qe
      refine f_Model_show_12 hF (fun _ => ?_) (fun q => absurd q (by decide))
      generalize hg1 : sm_u2 (sm_u2 g 58 21 0) 58 16 0 = g1
      have x1 : XF g g1 := by rw [← hg1]; exact ⟨fun a q1 _ _ _ _ _ => by rw [u2_na q1, u2_na q1], fun j _ q1 q2 => by rw [u2_ne (Or.inr q1), u2_ne (Or.inr q2)]⟩
      have D1 : g1 58 16 = nI 0 := by rw [← hg1, u2_self]; rfl
      have s1 : SO g1 [] := ⟨by rw [← hg1, u2_ne (Or.inr (by decide)), u2_self]; rfl, fun j hj => by simp at hj⟩
      clear hg1
      refine c_enterPage (F := []) (by omega) hF D1 (by decide) (fun i f hi => by cases hi) (fun g2 x2 f2 D2 o1 o2 => f_Model_show_33 hF ?_)
      have kf : ∀ g', XF g g' → SO g' (full σ.2.2.1 p) → Q (some (vI (g' 58 21))) (wi H g') := fun g' hx hs => by
        have h2 := k g' (h.shw hx hs)
        rw [hs.1]
        exact h2
      refine lm_show (d := d - 1) (FU := full σ.2.2.1 p) (by omega) hF h.rr kf 3 [] p (-1) [] (by decide) q6 qt (fun g3 U3 bf3 u3 u4 x3 f3 D3 s3 hb3 hU3 => ?_) (nLn (ntx σ.2.2.1 p)) 0 g2 [] 0 _ _ (by omega) (x1.trans x2) (by rw [po_0]; exact f2) D2 (s1.xx o1 o2) (by decide) ?_
      · refine lm_x (by omega) hF hb3 s3 (Or.inl (by rw [D3]; exact nI_le (Nat.le_refl _) (by decide))) (fun g' f' s' => kf g' (x3.trans f'.xf) ?_)
        rw [rls] at hU3
        rw [← hU3]
        exact s'
      · rw [List.append_nil]
        rfl
    · rw [if_neg ht] at k
      exact f_Model_show_12 hF (fun q1 => absurd rfl q1) (fun _ => k g h)
end MODU
