/-! the class: lines are added to the screen -/
theorem mkv_and : ∀ x : Fin 6, ∀ a b c e f h : Bool, (mkv a b c e f h &&& ((1 : Int32) <<< (nI x.val &&& 31))) = 0 ↔ (if x.val = 0 then a else if x.val = 1 then b else if x.val = 2 then c else if x.val = 3 then e else if x.val = 4 then f else h) = false := by decide +kernel
theorem MK_and {B : Nat → Bool} {x : Nat} (hx : x < 6) : (MK B &&& ((1 : Int32) <<< (nI x &&& 31))) = 0 ↔ B x = false := by
  refine (mkv_and ⟨x, hx⟩ (B 0) (B 1) (B 2) (B 3) (B 4) (B 5)).trans ?_
  have : x = 0 ∨ x = 1 ∨ x = 2 ∨ x = 3 ∨ x = 4 ∨ x = 5 := by omega
  rcases this with rfl | rfl | rfl | rfl | rfl | rfl <;> exact Iff.rfl
theorem and_0 (x : Int32) : x &&& 0 = 0 := Int32.and_zero
theorem LC.f8 {g g' : Nat → Nat → Int32} {w : Ln} (h : LC g w) (hf : F8 g g') : LC g' w := ⟨h.1, h.2.1, by rw [hf.1 54 (by decide) (by decide)]; exact h.2.2.1, fun j hj => by rw [hf.1 55 (by decide) (by decide)]; exact h.2.2.2 j hj⟩
/-- the block that is open -/
def blk (bf : Nat) : Int32 := if bf = 2 then 1 else if bf = 3 then 2 else 0
section SCRB
variable {d : Nat} {Q : Option AV → AH → Prop} {H : AH} {g g' : Nat → Nat → Int32} {x c : Int32} {w : Ln} {T : Tx} {R : List Rv} {bf : Nat}
theorem x_pageBit (hd : 1 ≤ d) (k0 : (∀ p : Nat, p < 6 → x - 65 ≠ nI p) → Q (some (vI 0)) H) (k1 : ∀ p : Nat, p < 6 → x - 65 = nI p → Q (some (vI ((1 : Int32) <<< (nI p &&& 31)))) H) : cwp d 111 [vI x] H Q := by
  refine e_P_pageBit hd (t_P_pageBit_0 (fun q => k0 (fun p hp e => ?_)) (fun q q2 => k0 (fun p hp e => ?_)) (fun q q2 => ?_))
  · rw [e] at q; exact absurd q (nI_pos (by omega))
  · rw [e, show (6 : Int32) = nI 6 from rfl, nI_leI (by decide) (by omega)] at q2; omega
  · obtain ⟨j, hj, e⟩ := nI_of q
    rw [e, show (6 : Int32) = nI 6 from rfl, nI_leI (by decide) hj] at q2
    rw [e]
    exact k1 j (by omega) e
theorem x_writeLink (hd : 2 ≤ d) (hF : Fix H) (hK : KT H) (hM : g 56 3 = MK (thB R)) (h : S8 g T) (hx : okc x) (k : ∀ g', F8 g g' → S8 g' (T ++ (if thC R x = true then [60, 97, 62, x, 60, 47, 97, 62] else [60, 117, 62, x, 60, 47, 117, 62])) → Q none (wi H g')) : cwp d 54 [vR 56, vI x] (wi H g) Q := by
  refine e_Screen_writeLink (by omega) (hF.c 56 26 rfl) (f_Screen_writeLink_0 hF ?_)
  have yes : thC R x = true → cwp (d - 1) 56 [vR 56, vR 12] (wi H g) (fun r1 H1 => wp (d - 1) sc_Screen_writeLink 33 [vR 56, vI x, vI 1] (r1.toList ++ []) H1 Q) := fun ht => by
    rw [if_pos ht] at k
    refine x_write (j := 10) (by omega) hF hK (by decide) h (fun g1 f1 s1 => f_Screen_writeLink_33 hF (x_wc (by omega) hF s1 hx (fun g2 f2 s2 => f_Screen_writeLink_38 hF (fun z => absurd z (by decide)) (fun _ => x_write (j := 12) (by omega) hF hK (by decide) s2 (fun g3 f3 s3 => f_Screen_writeLink_53 hF (k g3 ((f1.trans f2).trans f3) ?_))))))
    have : T ++ ([60, 97, 62, x, 60, 47, 97, 62] : Tx) = T ++ TXT 10 ++ [x] ++ TXT 12 := by simp [TXT]
    rw [this]
    exact s3
  have nah : ¬ thC R x = true → cwp (d - 1) 56 [vR 56, vR 13] (wi H g) (fun r1 H1 => wp (d - 1) sc_Screen_writeLink 33 [vR 56, vI x, vI 0] (r1.toList ++ []) H1 Q) := fun ht => by
    rw [if_neg ht] at k
    refine x_write (j := 11) (by omega) hF hK (by decide) h (fun g1 f1 s1 => f_Screen_writeLink_33 hF (x_wc (by omega) hF s1 hx (fun g2 f2 s2 => f_Screen_writeLink_38 hF (fun _ => x_write (j := 13) (by omega) hF hK (by decide) s2 (fun g3 f3 s3 => f_Screen_writeLink_53 hF (k g3 ((f1.trans f2).trans f3) ?_))) (fun z => absurd rfl z))))
    have : T ++ ([60, 117, 62, x, 60, 47, 117, 62] : Tx) = T ++ TXT 11 ++ [x] ++ TXT 13 := by simp [TXT]
    rw [this]
    exact s3
  refine x_pageBit (by omega) (fun hno => ?_) (fun p hp e => ?_)
  · refine f_Screen_writeLink_8 hF (fun _ => nah (fun z => ?_)) (fun z => absurd (and_0 _) z)
    obtain ⟨p, hp, e, -⟩ := thX_iff.mp z
    exact hno p hp e
  · have et : thC R x = thB R p := by unfold thC thX; rw [e, pgN_some hp]
    rw [hM]
    refine f_Screen_writeLink_8 hF (fun z => nah ?_) (fun z => yes ?_)
    · rw [MK_and hp] at z
      rw [et, z]
      decide
    · rw [MK_and hp] at z
      rw [et]
      simpa using z
theorem x_writeEscaped (hd : 2 ≤ d) (hF : Fix H) (hK : KT H) (h : S8 g T) (hx : okc x) (k : ∀ g', F8 g g' → S8 g' (T ++ esc x) → Q none (wi H g')) : cwp d 55 [vR 56, vI x] (wi H g) Q := by
  unfold esc at k
  refine e_Screen_writeEscaped (by omega) (hF.c 56 26 rfl) (f_Screen_writeEscaped_0 hF (fun q q2 q3 => ?_) (fun q q2 q3 => ?_) (fun q q2 => ?_) (fun q => ?_))
  · rw [if_neg q, if_neg q2, if_neg q3] at k
    exact x_wc (by omega) hF h hx (fun g1 f1 s1 => f_Screen_writeEscaped_50 hF (k g1 f1 s1))
  · rw [if_neg q, if_neg q2, if_pos q3] at k
    exact x_write (j := 16) (by omega) hF hK (by decide) h (fun g1 f1 s1 => f_Screen_writeEscaped_42 hF (k g1 f1 s1))
  · rw [if_neg q, if_pos q2] at k
    exact x_write (j := 15) (by omega) hF hK (by decide) h (fun g1 f1 s1 => f_Screen_writeEscaped_27 hF (k g1 f1 s1))
  · rw [if_pos q] at k
    exact x_write (j := 14) (by omega) hF hK (by decide) h (fun g1 f1 s1 => f_Screen_writeEscaped_12 hF (k g1 f1 s1))
theorem lm_ac {x1 : Int32} (hd : 3 ≤ d) (hF : Fix H) (hK : KT H) (hM : g 56 3 = MK (thB R)) (hw : LC g w) : ∀ (n k : Nat) (bo : Bool) (T : Tx) (g1 : Nat → Nat → Int32), w.length + 1 ≤ n + k → k ≤ w.length → F8 g g1 → S8 g1 T → (∀ g', F8 g g' → S8 g' (T ++ ctk (thC R) w n k bo) → Q none (wi H g')) →
    wp d sc_Screen_addContent 5 [vR 56, vR 54, vI x1, vI (zB bo), vI (nI k)] [] (wi H g1) Q := by
  have h40 := hw.1
  have r54 : gr H 54 0 = 55 := hF.r 54 0 55 rfl
  have k54 := hF.c 54 21 rfl
  have k55 : kd H 55 = (2, 40) := hF.2.1 55 _ rfl
  intro n
  induction n with
  | zero => intro k bo T g1 h1 h2; omega
  | succ n ih =>
    intro k bo T g1 hn hk hf hs kk
    have hw1 := hw.f8 hf
    have hM1 : g1 56 3 = MK (thB R) := by rw [hf.2 3 (by decide)]; exact hM
    have cK : (nI k).toNatClampNeg = k := nI_clamp (by omega)
    have eL : g1 54 1 ≤ nI k ↔ w.length ≤ k := by rw [hw1.2.2.1, nI_leI (by omega) (by omega)]
    by_cases hlt : w.length ≤ k
    · have z := eL.mpr hlt
      have es : ctk (thC R) w (n + 1) k bo = if bo = true then [60, 47, 98, 62] else [] := by rw [ctk, if_pos hlt]
      rw [es] at kk
      refine f_Screen_addContent_5 (by omega) hF k54 (fun _ q => ?_) (fun _ q => ?_) (fun q => absurd z q)
      · rw [zB_0] at q
        subst q
        rw [if_neg (by decide), List.append_nil] at kk
        exact kk g1 hf hs
      · rw [zB_0] at q
        have q2 : bo = true := by simpa using q
        subst q2
        rw [if_pos rfl] at kk
        exact x_write (j := 8) (by omega) hF hK (by decide) hs (fun g2 f2 s2 => f_Screen_addContent_109 hF (kk g2 (hf.trans f2) s2))
    · refine f_Screen_addContent_5 (by omega) hF k54 (fun q => absurd (eL.mp q) hlt) (fun q => absurd (eL.mp q) hlt) (fun _ => x_hasTwo (by omega) hF hw1 (by omega) (fun r hr => ?_))
      rcases hr with ⟨h2, rfl⟩ | ⟨h2, rfl⟩
      · have hl2 := h2.1
        have es : ctk (thC R) w (n + 1) k bo = (if bo = true then [60, 47, 98, 62] else [60, 98, 62]) ++ ctk (thC R) w n (k + 2) (!bo) := by rw [ctk, if_neg hlt, if_pos h2]
        have e2 : nI k + 2 = nI (k + 2) := nI_add k 2
        refine f_Screen_addContent_22 hF (fun z => absurd z (by decide)) (fun _ q => ?_) (fun _ q => ?_)
        · rw [zB_0] at q
          subst q
          refine x_write (j := 9) (by omega) hF hK (by decide) hs (fun g2 f2 s2 => f_Screen_addContent_40 hF (fun z => absurd rfl z) (fun _ => ?_))
          rw [e2]
          refine ih (k + 2) true _ g2 (by omega) (by omega) (hf.trans f2) s2 (fun g' f' s' => kk g' f' ?_)
          rw [es, if_neg (by decide), ← List.append_assoc]
          exact s'
        · rw [zB_0] at q
          have q2 : bo = true := by simpa using q
          subst q2
          refine x_write (j := 8) (by omega) hF hK (by decide) hs (fun g2 f2 s2 => f_Screen_addContent_40 hF (fun _ => ?_) (fun z => absurd z (by decide)))
          rw [e2]
          refine ih (k + 2) false _ g2 (by omega) (by omega) (hf.trans f2) s2 (fun g' f' s' => kk g' f' ?_)
          rw [es, if_pos rfl, ← List.append_assoc]
          exact s'
      · refine f_Screen_addContent_22 hF (fun _ => x_isLink (by omega) hF hw1 (by omega) (fun r hr => ?_)) (fun z => absurd rfl z) (fun z => absurd rfl z)
        rcases hr with ⟨hr, rfl⟩ | ⟨hr, rfl⟩
        · have e2 : nI k + 2 = nI (k + 2) := nI_add k 2
          have hl5 := hr.1
          have eg : g1 (gr H 54 0) (nI k + 2).toNatClampNeg = ch w (k + 2) := by rw [r54, e2, nI_clamp (by omega)]; exact hw1.2.2.2 _ (by omega)
          have oc : okc (ch w (k + 2)) := hw.2.1 (k + 2) (by omega)
          have es : ctk (thC R) w (n + 1) k bo = (if thC R (ch w (k + 2)) = true then [60, 97, 62, ch w (k + 2), 60, 47, 97, 62] else [60, 117, 62, ch w (k + 2), 60, 47, 117, 62]) ++ ctk (thC R) w n (k + 5) bo := by rw [ctk, if_neg hlt, if_neg h2, if_pos hr]
          refine f_Screen_addContent_62 (by omega) hF (fun z => absurd z (by decide)) (fun z => absurd z (by decide)) (fun z => absurd z (by decide)) (fun z => absurd z (by decide)) (fun _ => k54) (fun _ => by rw [r54, k55]) (fun _ => by rw [r54, k55, e2]; exact vp_in_nI (by show _ < 40; omega) (by decide)) (fun _ => by rw [eg]; exact oc) (fun z => absurd z (by decide)) (fun _ => ?_)
          rw [eg]
          refine x_writeLink (by omega) hF hK hM1 hs oc (fun g2 f2 s2 => f_Screen_addContent_77 hF ?_)
          rw [show nI k + 5 = nI (k + 5) from nI_add k 5]
          refine ih (k + 5) bo _ g2 (by omega) (by omega) (hf.trans f2) s2 (fun g' f' s' => kk g' f' ?_)
          rw [es, ← List.append_assoc]
          exact s'
        · have eg : g1 (gr H 54 0) (nI k).toNatClampNeg = ch w k := by rw [r54, cK]; exact hw1.2.2.2 _ (by omega)
          have oc : okc (ch w k) := hw.2.1 k (by omega)
          have es : ctk (thC R) w (n + 1) k bo = esc (ch w k) ++ ctk (thC R) w n (k + 1) bo := by rw [ctk, if_neg hlt, if_neg h2, if_neg hr]
          refine f_Screen_addContent_62 (by omega) hF (fun _ => k54) (fun _ => by rw [r54, k55]) (fun _ => by rw [r54, k55]; exact vp_in_nI (by show _ < 40; omega) (by decide)) (fun _ => by rw [eg]; exact oc) (fun z => absurd rfl z) (fun z => absurd rfl z) (fun z => absurd rfl z) (fun z => absurd rfl z) (fun _ => ?_) (fun z => absurd rfl z)
          rw [eg]
          refine x_writeEscaped (by omega) hF hK hs oc (fun g2 f2 s2 => f_Screen_addContent_93 hF ?_)
          rw [nI_1]
          refine ih (k + 1) bo _ g2 (by omega) (by omega) (hf.trans f2) s2 (fun g' f' s' => kk g' f' ?_)
          rw [es, ← List.append_assoc]
          exact s'
theorem x_addContent {j : Nat} (hd : 4 ≤ d) (hF : Fix H) (hK : KT H) (hM : g 56 3 = MK (thB R)) (hw : LC g w) (hj : j ≤ w.length) (h : S8 g T) (k : ∀ g', F8 g g' → S8 g' (T ++ ctx (thC R) w j) → Q none (wi H g')) : cwp d 53 [vR 56, vR 54, vI (nI j)] (wi H g) Q := by
  have h40 := hw.1
  refine e_Screen_addContent (by omega) (hF.c 56 26 rfl) (f_Screen_addContent_0 hF ?_)
  exact lm_ac (d := d - 1) (by omega) hF hK hM hw 50 j false T g (by omega) hj F8.rf h k
end SCRB
