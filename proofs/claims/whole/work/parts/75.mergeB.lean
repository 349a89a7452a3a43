/-! the class: merging -/
theorem wi_sr (H : AH) (g : Nat → Nat → Int32) (a k r : Nat) : sr (wi H g) a k r = wi (sr H a k r) g := rfl
theorem fix_sr {H : AH} {a k r : Nat} (h : Fix H) (hn : lk2 fRL a k = none) : Fix (sr H a k r) := by
  refine ⟨h.1, fun b p e => h.2.1 b p e, fun b j v e => ?_⟩
  rw [gr_sr, if_neg]
  · exact h.2.2 b j v e
  · rintro ⟨rfl, rfl⟩
    rw [hn] at e
    cases e
theorem sr_gr {H : AH} {t a k r : Nat} (hne : t ≠ a) (j : Nat) : gr (sr H a k r) t j = gr H t j := by rw [gr_sr, if_neg (fun z => hne z.1)]
theorem tl_sr {H : AH} {t a k r : Nat} (h : TL H t) (hne : t ≠ a) : TL (sr H a k r) t := by
  have e : ∀ j, gr (sr H a k r) t j = gr H t j := sr_gr hne
  refine ⟨⟨h.1.1, ?_, ?_⟩, ?_, ?_⟩
  · rw [e]; exact h.1.2.1
  · rw [e]; exact h.1.2.2
  · rw [e]; exact h.2.1
  · rw [e]; exact h.2.2
theorem tx_sr {H : AH} {g : Nat → Nat → Int32} {t a k r : Nat} {l : Tx} (h : TX H g t l) (hne : t ≠ a) : TX (sr H a k r) g t l := by
  unfold TX at *
  rw [sr_gr hne, sr_gr hne]
  exact h
/-- all is as it was but the spans and the merger's own -/
def XS (g g' : Nat → Nat → Int32) : Prop := ∀ a, a ≠ 30 → a ≠ 33 → a ≠ 34 → a ≠ 35 → a ≠ 36 → a ≠ 37 → a ≠ 38 → g' a = g a
theorem XS.trans {g g' g'' : Nat → Nat → Int32} (h : XS g g') (h2 : XS g' g'') : XS g g'' := fun a a1 a2 a3 a4 a5 a6 a7 => by rw [h2 a a1 a2 a3 a4 a5 a6 a7, h a a1 a2 a3 a4 a5 a6 a7]
theorem XM.xs {g g' : Nat → Nat → Int32} (h : XM g g') : XS g g' := fun a a1 _ _ _ a5 a6 a7 => h a a1 a5 a6 a7
theorem XS.u {g : Nat → Nat → Int32} {s k : Nat} {x : Int32} (hs : s = 33 ∨ s = 34 ∨ s = 35) : XS g (sm_u2 g s k x) := fun a _ a2 a3 a4 _ _ _ => u2_na (by rcases hs with rfl | rfl | rfl <;> assumption)
theorem TX.xs {H : AH} {g g' : Nat → Nat → Int32} {t : Nat} {l : Tx} (h : TX H g t l) (hF : Fix H) (hL : TL H t) (hne : t ≠ 36) (hf : XS g g') : TX H g' t l := by
  have c : ∀ s, (kd H s).1 = 27 ∨ (kd H s).1 = 23 → ∀ a, a ≤ 2 → t + a ≠ s := fun s hs => hL.nc (by rcases hs with e | e <;> rw [e] <;> decide) (by rcases hs with e | e <;> rw [e] <;> decide) (by rcases hs with e | e <;> rw [e] <;> decide)
  have z : ∀ a, a ≤ 2 → g' (t + a) = g (t + a) := fun a ha => hf _ (c 30 (Or.inr (hF.c 30 23 rfl)) a ha) (c 33 (Or.inl (hF.c 33 27 rfl)) a ha) (c 34 (Or.inl (hF.c 34 27 rfl)) a ha) (c 35 (Or.inl (hF.c 35 27 rfl)) a ha) (hL.sep hF.t36 hne a 0 ha (by decide)) (hL.sep hF.t36 hne a 1 ha (by decide)) (hL.sep hF.t36 hne a 2 ha (by decide))
  exact h.of hL (z 0 (by decide)) (z 1 (by decide)) (z 2 (by decide))
theorem MG.u {H : AH} {g : Nat → Nat → Int32} {b : Bool} {T : Tx} {s k : Nat} {x : Int32} (h : MG H g b T) (hF : Fix H) (hs : s = 33 ∨ s = 34 ∨ s = 35) : MG H (sm_u2 g s k x) b T := by
  have e : ∀ a, a = 30 ∨ a = 36 ∨ a = 37 ∨ a = 38 → sm_u2 g s k x a = g a := fun a ha => u2_na (by omega)
  exact ⟨h.1.of hF.t36 (e 36 (by decide)) (e 37 (by decide)) (e 38 (by decide)), by rw [e 30 (by decide)]; exact h.2.1, by rw [e 30 (by decide)]; exact h.2.2⟩
section MRGB
variable {d : Nat} {Q : Option AV → AH → Prop} {H : AH} {g : Nat → Nat → Int32} {lo la lb : Tx} {x : Int32} {bb : Bool} {T : Tx} {to ta tb : Nat}
theorem x_reachTo {s : Nat} (hd : 1 ≤ d) (hs : (kd H s).1 = 27) (k : Q none (wi H (sm_u2 g s 2 x))) : cwp d 60 [vR s, vI x] (wi H g) Q := e_Span_reachTo hd hs (t_Span_reachTo_0 hs k)
theorem x_goOn {s : Nat} (hd : 1 ≤ d) (hs : (kd H s).1 = 27) (k : Q none (wi H (sm_u2 g s 1 (g s 2 + 1)))) : cwp d 62 [vR s] (wi H g) Q := e_Span_goOnBehind hd hs (t_Span_goOnBehind_0 hs k)
theorem x_reachEnd {s t : Nat} (hd : 2 ≤ d) (hs : (kd H s).1 = 27) (ht : gr H s 0 = t) (hT : TO H t) (hX : TX H g t lo) (k : Q none (wi H (sm_u2 g s 2 (nI (nLn lo))))) : cwp d 61 [vR s] (wi H g) Q := by
  refine e_Span_reachEnd (by omega) hs (t_Span_reachEnd_0 (by omega) hs (by rw [wi_kd, wi_gr, ht]; exact hT.1) ?_)
  rw [wi_gi, wi_gr, ht, hX.2.2.2.1]
  exact k
theorem x_pop {o o2 a a2 b b2 : Nat} (hd : 5 ≤ d) (hF : Fix H) (So : SP H g 33 to o o2) (Sa : SP H g 34 ta a a2) (Sb : SP H g 35 tb b b2) (Lo : TL H to) (La : TL H ta) (Lb : TL H tb) (na : ta ≠ 36) (nb : tb ≠ 36) (Xo : TX H g to lo) (Xa : TX H g ta la) (Xb : TX H g tb lb)
    (h1 : o ≤ o2) (h2 : o2 ≤ nLn lo) (h3 : a ≤ a2) (h4 : a2 ≤ nLn la) (h5 : b ≤ b2) (h6 : b2 ≤ nLn lb) (h : MG H g bb T)
    (kn : rgn (LN lo) (LN la) (LN lb) o o2 a a2 b b2 = none → Q (some (vI 0)) (wi H g))
    (ky : ∀ reg g', rgn (LN lo) (LN la) (LN lb) o o2 a a2 b b2 = some reg → MG H g' (bb || !reg.isEmpty) (T ++ em bb reg) → XM g g' → Q (some (vI 1)) (wi H g')) : cwp d 32 [vR 30] (wi H g) Q := by
  refine e_Merger_putOutPart (by omega) (hF.c 30 23 rfl) (f_Merger_putOutPart_0 hF (x_same (by omega) Sa So La.1 Xa Lo.1 Xo h3 h4 h1 h2 (fun r hr => ?_)))
  rcases hr with ⟨e1, rfl⟩ | ⟨e1, rfl⟩
  · exact f_Merger_putOutPart_11 hF (fun z => absurd z (by decide)) (fun _ => x_pols (by omega) hF Sb Lb nb Xb h5 h6 h (fun g' m' x' => f_Merger_putOutPart_22 hF (ky _ g' (by unfold rgn; rw [if_pos e1]) m' x')))
  · refine f_Merger_putOutPart_11 hF (fun _ => x_same (by omega) Sb So Lb.1 Xb Lo.1 Xo h5 h6 h1 h2 (fun r hr => ?_)) (fun z => absurd rfl z)
    rcases hr with ⟨e2, rfl⟩ | ⟨e2, rfl⟩
    · exact f_Merger_putOutPart_35 hF (fun _ => x_pols (by omega) hF Sa La na Xa h3 h4 h (fun g' m' x' => f_Merger_putOutPart_60 hF (ky _ g' (by unfold rgn; rw [if_neg e1, if_pos (Or.inl e2)]) m' x'))) (fun z => absurd z (by decide))
    · refine f_Merger_putOutPart_35 hF (fun z => absurd rfl z) (fun _ => x_same (by omega) Sa Sb La.1 Xa Lb.1 Xb h3 h4 h5 h6 (fun r hr => ?_))
      rcases hr with ⟨e3, rfl⟩ | ⟨e3, rfl⟩
      · exact f_Merger_putOutPart_49 hF (fun z => absurd z (by decide)) (fun _ => x_pols (by omega) hF Sa La na Xa h3 h4 h (fun g' m' x' => f_Merger_putOutPart_60 hF (ky _ g' (by unfold rgn; rw [if_neg e1, if_pos (Or.inr e3)]) m' x')))
      · exact f_Merger_putOutPart_49 hF (fun _ => kn (by unfold rgn; rw [if_neg e1, if_neg (fun z => z.elim e2 e3)])) (fun z => absurd rfl z)
theorem nI_neg {n : Nat} (h : n < 2 ^ 31) : ¬ nI n < 0 := nI_pos h
theorem ptr_neg {ps : List (Option Nat)} {i : Nat} (h : i < ps.length) (hb : ∀ k, ps[i]? = some (some k) → k < 2 ^ 31) : (ptr ps i < 0 ∧ ps[i]? = some none) ∨ ∃ k, ps[i]? = some (some k) ∧ ptr ps i = nI k ∧ ¬ ptr ps i < 0 := by
  rcases ps_get h with e | ⟨k, e⟩
  · exact Or.inl ⟨by rw [ptr_none e]; decide, e⟩
  · exact Or.inr ⟨k, e, ptr_some e, by rw [ptr_some e]; exact nI_pos (hb k e)⟩
theorem lm_merge {F : Option (List Ln)} (hd : 6 ≤ d) (hF : Fix H) (ro : gr H 33 0 = to) (ra : gr H 34 0 = ta) (rb : gr H 35 0 = tb) (Lo : TL H to) (La : TL H ta) (Lb : TL H tb) (no : to ≠ 36) (na : ta ≠ 36) (nb : tb ≠ 36) (Xo : TX H g to lo) (Xa : TX H g ta la) (Xb : TX H g tb lb)
    (wA : ∀ i, i < nLn lo → g 31 i = ptr (PR (LN lo) (LN la)) i) (wB : ∀ i, i < nLn lo → g 32 i = ptr (PR (LN lo) (LN lb)) i)
    (kc : F = none → ∀ g' b T, XS g g' → MG H g' b T → Q (some (vI (-2))) (wi H g')) (kn : ∀ ls g', F = some ls → XS g g' → MG H g' (!ls.isEmpty) (em false ls) → Q (some (vI (if 40 < (em false ls).length then -3 else 0))) (wi H g')) :
    ∀ (m k o a b jo ja jb : Nat) (out : List Ln) (g1 : Nat → Nat → Int32), k + m = nLn lo → o ≤ k → a ≤ nLn la → b ≤ nLn lb →
    F = (mg (LN lo) (LN la) (LN lb) (((PR (LN lo) (LN la)).zip (PR (LN lo) (LN lb))).drop k) k o a b).map (fun r => out ++ r) →
    (∀ z q, k ≤ z → (PR (LN lo) (LN la))[z]? = some (some q) → a ≤ q) → (∀ z q, k ≤ z → (PR (LN lo) (LN lb))[z]? = some (some q) → b ≤ q) →
    XS g g1 → MG H g1 (!out.isEmpty) (em false out) → SP H g1 33 to o jo → SP H g1 34 ta a ja → SP H g1 35 tb b jb →
    wp d sc_Merger_merge 10 [vR 30, vR to, vR ta, vR tb, vI (nI k)] [] (wi H g1) Q := by
  have hlo := Xo.2.1
  have hla := Xa.2.1
  have hlb := Xb.2.1
  have nO := nLn_le lo
  have nA := nLn_le la
  have nB := nLn_le lb
  have LO := LN_len lo
  have LA := LN_len la
  have LB := LN_len lb
  have PA := PR_len (LN lo) (LN la)
  have PB := PR_len (LN lo) (LN lb)
  have k33 := hF.c 33 27 rfl
  have k34 := hF.c 34 27 rfl
  have k35 := hF.c 35 27 rfl
  have o33 : (33 : Nat) = 33 ∨ (33 : Nat) = 34 ∨ (33 : Nat) = 35 := Or.inl rfl
  have o34 : (34 : Nat) = 33 ∨ (34 : Nat) = 34 ∨ (34 : Nat) = 35 := Or.inr (Or.inl rfl)
  have o35 : (35 : Nat) = 33 ∨ (35 : Nat) = 34 ∨ (35 : Nat) = 35 := Or.inr (Or.inr rfl)
  have emo : ∀ (out reg : List Ln), em false out ++ em (!out.isEmpty) reg = em false (out ++ reg) := fun out reg => by rw [em_app, Bool.false_or]
  have iso : ∀ (out reg : List Ln), (!out.isEmpty || !reg.isEmpty) = !(out ++ reg).isEmpty := fun out reg => by rw [isE_app]; cases out.isEmpty <;> rfl
  -- three spans reach on
  have rch : ∀ (g1 : Nat → Nat → Int32) (o jo a ja b jb p q r : Nat) (out : List Ln), XS g g1 → MG H g1 (!out.isEmpty) (em false out) → SP H g1 33 to o jo → SP H g1 34 ta a ja → SP H g1 35 tb b jb →
      XS g (sm_u2 (sm_u2 (sm_u2 g1 33 2 (nI p)) 34 2 (nI q)) 35 2 (nI r)) ∧ MG H (sm_u2 (sm_u2 (sm_u2 g1 33 2 (nI p)) 34 2 (nI q)) 35 2 (nI r)) (!out.isEmpty) (em false out) ∧ SP H (sm_u2 (sm_u2 (sm_u2 g1 33 2 (nI p)) 34 2 (nI q)) 35 2 (nI r)) 33 to o p ∧ SP H (sm_u2 (sm_u2 (sm_u2 g1 33 2 (nI p)) 34 2 (nI q)) 35 2 (nI r)) 34 ta a q ∧ SP H (sm_u2 (sm_u2 (sm_u2 g1 33 2 (nI p)) 34 2 (nI q)) 35 2 (nI r)) 35 tb b r := by
    intro g1 o jo a ja b jb p q r out hx hm s1 s2 s3
    refine ⟨((hx.trans (XS.u o33)).trans (XS.u o34)).trans (XS.u o35), ((hm.u hF o33).u hF o34).u hF o35, ⟨k33, ro, ?_, ?_⟩, ⟨k34, ra, ?_, ?_⟩, ⟨k35, rb, ?_, ?_⟩⟩
    · rw [u2_na (by decide), u2_na (by decide), u2_ne (Or.inr (by decide))]; exact s1.2.2.1
    · rw [u2_na (by decide), u2_na (by decide), u2_self]
    · rw [u2_na (by decide), u2_ne (Or.inr (by decide)), u2_na (by decide)]; exact s2.2.2.1
    · rw [u2_na (by decide), u2_self]
    · rw [u2_ne (Or.inr (by decide)), u2_na (by decide), u2_na (by decide)]; exact s3.2.2.1
    · rw [u2_self]
  intro m
  induction m with
  | zero =>
    intro k o a b jo ja jb out g1 hk hok hal hbl hFm hza hzb hx hm So Sa Sb
    have ek : k = nLn lo := by omega
    have Xo1 := Xo.xs hF Lo no hx
    have z : g1 to 3 ≤ nI k := by rw [Xo1.2.2.2.1, ek]; exact Int32.le_refl _
    rw [mg_end (by rw [List.length_zip]; omega)] at hFm
    refine f_Merger_merge_10 (by omega) hF Lo.1.1 (fun w => absurd z w) (fun _ => ?_) (fun w => absurd z w) (fun w => absurd z w) (fun w => absurd z w)
    obtain ⟨x3, m3, s1, s2, s3⟩ := rch g1 o jo a ja b jb (nLn lo) (nLn la) (nLn lb) out hx hm So Sa Sb
    refine x_reachEnd (lo := lo) (by omega) k33 ro Lo.1 Xo1 (f_Merger_merge_127 hF ?_)
    refine x_reachEnd (lo := la) (by omega) k34 ra La.1 (Xa.xs hF La na (hx.trans (XS.u o33))) (f_Merger_merge_134 hF ?_)
    refine x_reachEnd (lo := lb) (by omega) k35 rb Lb.1 (Xb.xs hF Lb nb ((hx.trans (XS.u o33)).trans (XS.u o34))) (f_Merger_merge_141 hF ?_)
    rw [LO, LA, LB] at hFm
    refine x_pop (by omega) hF s1 s2 s3 Lo La Lb na nb (Xo.xs hF Lo no x3) (Xa.xs hF La na x3) (Xb.xs hF Lb nb x3) (by omega) (Nat.le_refl _) hal (Nat.le_refl _) hbl (Nat.le_refl _) m3 (fun hr => ?_) (fun reg g4 hr m4 x4 => ?_)
    · rw [hr] at hFm
      exact f_Merger_merge_145 hF (fun w => absurd rfl w) (fun w => absurd rfl w) (fun _ => kc hFm _ _ _ x3 m3)
    · rw [hr] at hFm
      rw [emo, iso] at m4
      have h8 := m4.2.1
      have kk := kn _ g4 hFm (x3.trans x4.xs) m4
      refine f_Merger_merge_145 hF (fun _ w => ?_) (fun _ w => ?_) (fun w => absurd w (by decide))
      · rw [h8, zB_0] at w
        rw [if_neg (of_decide_eq_false w)] at kk
        exact kk
      · rw [h8, zB_0] at w
        rw [if_pos (by simpa using w)] at kk
        exact kk
  | succ m ih =>
    intro k o a b jo ja jb out g1 hk hok hal hbl hFm hza hzb hx hm So Sa Sb
    have hkl : k < nLn lo := by omega
    have Xo1 := Xo.xs hF Lo no hx
    have z : ¬ g1 to 3 ≤ nI k := by rw [Xo1.2.2.2.1]; exact nI_ge hkl (by omega)
    have ck : (nI k).toNatClampNeg = k := nI_clamp (by omega)
    have gA : g1 31 (nI k).toNatClampNeg = ptr (PR (LN lo) (LN la)) k := by rw [ck, hx 31 (by decide) (by decide) (by decide) (by decide) (by decide) (by decide) (by decide)]; exact wA k hkl
    have gB : g1 32 (nI k).toNatClampNeg = ptr (PR (LN lo) (LN lb)) k := by rw [ck, hx 32 (by decide) (by decide) (by decide) (by decide) (by decide) (by decide) (by decide)]; exact wB k hkl
    have vk : vp_in (nI k) 41 := vp_in_nI (by omega) (by decide)
    have zg : ∀ u v, (PR (LN lo) (LN la))[k]? = some u → (PR (LN lo) (LN lb))[k]? = some v → ((PR (LN lo) (LN la)).zip (PR (LN lo) (LN lb)))[k]? = some (u, v) := fun u v h1 h2 => by rw [List.getElem?_zip_eq_some]; exact ⟨h1, h2⟩
    have skip : (∀ q, ((PR (LN lo) (LN la)).zip (PR (LN lo) (LN lb)))[k]? = some q → q.1 = none ∨ q.2 = none) → wp d sc_Merger_merge 10 [vR 30, vR to, vR ta, vR tb, vI (nI k + 1)] [] (wi H g1) Q := fun hq => by
      have hg : ((PR (LN lo) (LN la)).zip (PR (LN lo) (LN lb)))[k]? = some (((PR (LN lo) (LN la)).zip (PR (LN lo) (LN lb)))[k]'(by rw [List.length_zip]; omega)) := List.getElem?_eq_getElem (by rw [List.length_zip]; omega)
      rw [mg_not hg (hq _ hg)] at hFm
      rw [nI_1]
      exact ih (k + 1) o a b jo ja jb out g1 (by omega) (by omega) hal hbl hFm (fun z q hz => hza z q (by omega)) (fun z q hz => hzb z q (by omega)) hx hm So Sa Sb
    rcases ptr_neg (ps := PR (LN lo) (LN la)) (i := k) (by omega) (fun q h => by have := (PR_ok h).1; omega) with ⟨a1, a2⟩ | ⟨pa, a1, a2, a3⟩
    · refine f_Merger_merge_10 (by omega) hF Lo.1.1 (fun _ => vk) (fun w => absurd w z) (fun _ _ => skip (fun q hq => ?_)) (fun _ w => absurd (by rw [gA]; exact a1) w) (fun _ w => absurd (by rw [gA]; exact a1) w)
      obtain ⟨u, v⟩ := q
      rw [List.getElem?_zip_eq_some] at hq
      rw [a2] at hq
      exact Or.inl (Option.some.inj hq.1).symm
    · rcases ptr_neg (ps := PR (LN lo) (LN lb)) (i := k) (by omega) (fun q h => by have := (PR_ok h).1; omega) with ⟨b1, b2⟩ | ⟨pb, b1, b2, b3⟩
      · refine f_Merger_merge_10 (by omega) hF Lo.1.1 (fun _ => vk) (fun w => absurd w z) (fun _ w => absurd w (by rw [gA]; exact a3)) (fun _ _ _ => skip (fun q hq => ?_)) (fun _ _ w => absurd (by rw [gB]; exact b1) w)
        obtain ⟨u, v⟩ := q
        rw [List.getElem?_zip_eq_some] at hq
        rw [b2] at hq
        exact Or.inr (Option.some.inj hq.2).symm
      · have pA := PR_ok a1
        have pB := PR_ok b1
        have hpa := hza k pa (Nat.le_refl _) a1
        have hpb := hzb k pb (Nat.le_refl _) b1
        rw [mg_both (zg _ _ a1 b1)] at hFm
        obtain ⟨x3, m3, s1, s2, s3⟩ := rch g1 o jo a ja b jb k pa pb out hx hm So Sa Sb
        refine f_Merger_merge_10 (by omega) hF Lo.1.1 (fun _ => vk) (fun w => absurd w z) (fun _ w => absurd w (by rw [gA]; exact a3)) (fun _ _ w => absurd w (by rw [gB]; exact b3)) (fun _ _ _ => ?_)
        refine x_reachTo (by omega) k33 (f_Merger_merge_48 hF vk ?_)
        rw [u2_na (by decide), gA, a2]
        refine x_reachTo (by omega) k34 (f_Merger_merge_62 hF vk ?_)
        rw [u2_na (by decide), u2_na (by decide), gB, b2]
        refine x_reachTo (by omega) k35 (f_Merger_merge_76 hF ?_)
        refine x_pop (by omega) hF s1 s2 s3 Lo La Lb na nb (Xo.xs hF Lo no x3) (Xa.xs hF La na x3) (Xb.xs hF Lb nb x3) hok (by omega) hpa (by omega) hpb (by omega) m3 (fun hr => ?_) (fun reg g4 hr m4 x4 => ?_)
        · rw [hr] at hFm
          exact f_Merger_merge_80 hF (fun w => absurd rfl w) (fun _ => kc hFm _ _ _ x3 m3)
        · rw [hr] at hFm
          rw [emo, iso] at m4
          have x04 := x3.trans x4.xs
          refine f_Merger_merge_80 hF (fun _ => ?_) (fun w => absurd w (by decide))
          refine x_pol (by omega) hF Lo no (Xo.xs hF Lo no x04) hkl m4 (fun g5 m5 x5 => f_Merger_merge_93 hF ?_)
          have t1 := (s1.xm hF x4).xm hF x5
          have t2 := (s2.xm hF x4).xm hF x5
          have t3 := (s3.xm hF x4).xm hF x5
          refine x_goOn (by omega) k33 (f_Merger_merge_100 hF (x_goOn (by omega) k34 (f_Merger_merge_107 hF (x_goOn (by omega) k35 (f_Merger_merge_114 hF ?_)))))
          rw [nI_1]
          have e1 : g5 33 2 + 1 = nI (k + 1) := by rw [t1.2.2.2, nI_1]
          have e2 : sm_u2 g5 33 1 (g5 33 2 + 1) 34 2 + 1 = nI (pa + 1) := by rw [u2_na (by decide), t2.2.2.2, nI_1]
          have e3 : sm_u2 (sm_u2 g5 33 1 (g5 33 2 + 1)) 34 1 (sm_u2 g5 33 1 (g5 33 2 + 1) 34 2 + 1) 35 2 + 1 = nI (pb + 1) := by rw [u2_na (by decide), u2_na (by decide), t3.2.2.2, nI_1]
          rw [e3, e2, e1]
          have eol : em false (out ++ reg) ++ em (!(out ++ reg).isEmpty) [lnx (tf lo) lo.length k] = em false (out ++ reg ++ [(LN lo).getD k []]) := by rw [emo, LN_gD hkl]
          rw [eol] at m5
          have etr : true = !(out ++ reg ++ [(LN lo).getD k []]).isEmpty := by rw [isE_app]; simp
          rw [etr] at m5
          refine ih (k + 1) (k + 1) (pa + 1) (pb + 1) k pa pb (out ++ reg ++ [(LN lo).getD k []]) _ (by omega) (Nat.le_refl _) (by omega) (by omega) ?_ (fun z q hz hq => ?_) (fun z q hz hq => ?_) ((((x04.trans x5.xs).trans (XS.u o33)).trans (XS.u o34)).trans (XS.u o35)) (((m5.u hF o33).u hF o34).u hF o35) ⟨k33, ro, ?_, ?_⟩ ⟨k34, ra, ?_, ?_⟩ ⟨k35, rb, ?_, ?_⟩
          · rw [hFm]
            dsimp only
            cases mg (LN lo) (LN la) (LN lb) (((PR (LN lo) (LN la)).zip (PR (LN lo) (LN lb))).drop (k + 1)) (k + 1) (k + 1) (pa + 1) (pb + 1) with
            | none => rfl
            | some out2 => simp
          · exact pA.2.2 z q (by omega) hq
          · exact pB.2.2 z q (by omega) hq
          · rw [u2_na (by decide), u2_na (by decide), u2_self]
          · rw [u2_na (by decide), u2_na (by decide), u2_ne (Or.inr (by decide))]; exact t1.2.2.2
          · rw [u2_na (by decide), u2_self]
          · rw [u2_na (by decide), u2_ne (Or.inr (by decide)), u2_na (by decide)]; exact t2.2.2.2
          · rw [u2_self]
          · rw [u2_ne (Or.inr (by decide)), u2_na (by decide), u2_na (by decide)]; exact t3.2.2.2
end MRGB
