/-! the reference: lines are shown -/
/-- what is shown is T, of which 200 characters are kept -/
def SO (g : Nat → Nat → Int32) (T : Tx) : Prop := g 58 21 = nI (min 200 T.length) ∧ ∀ j, j < min 200 T.length → g 70 j = tf T j
def SF (g g' : Nat → Nat → Int32) : Prop := (∀ a, a ≠ 58 → a ≠ 70 → g' a = g a) ∧ ∀ j, j ≠ 21 → g' 58 j = g 58 j
theorem SF.rf {g : Nat → Nat → Int32} : SF g g := ⟨fun _ _ _ => rfl, fun _ _ => rfl⟩
theorem SF.trans {g g' g'' : Nat → Nat → Int32} (h : SF g g') (h2 : SF g' g'') : SF g g'' := ⟨fun a q1 q2 => by rw [h2.1 a q1 q2, h.1 a q1 q2], fun j hj => by rw [h2.2 j hj, h.2 j hj]⟩
theorem LW.sf {g g' : Nat → Nat → Int32} {w : Ln} (h : LW g w) (hf : SF g g') : LW g' w := ⟨h.1, by rw [hf.2 15 (by decide)]; exact h.2.1, fun j hj => by rw [hf.1 66 (by decide) (by decide)]; exact h.2.2 j hj⟩
theorem RRv.sf {g g' : Nat → Nat → Int32} {R : List Rv} (h : RRv g R) (hf : SF g g') : RRv g' R := h.fr (hf.1 59 (by decide) (by decide)) (hf.1 60 (by decide) (by decide)) (hf.1 61 (by decide) (by decide)) (hf.1 62 (by decide) (by decide)) (hf.2 2 (by decide))
theorem tf_l {T U : Tx} {j : Nat} (h : j < T.length) : tf (T ++ U) j = tf T j := by
  unfold tf
  rw [List.getD_eq_getElem?_getD, List.getD_eq_getElem?_getD, List.getElem?_append_left h]
theorem tf_e {T U : Tx} {x : Int32} : tf (T ++ x :: U) T.length = x := by
  unfold tf
  rw [List.getD_eq_getElem?_getD, List.getElem?_append_right (Nat.le_refl _), Nat.sub_self]
  rfl
def tgX (z a b : Int32) : Tx := 60 :: ((if z = 0 then [] else [47]) ++ a :: ((if b = 0 then [] else [b]) ++ [62]))
def nmX (a b c : Int32) : Tx := 38 :: a :: b :: ((if c = 0 then [] else [c]) ++ [59])
/-- 0 empty, 1 heading, 2 item, 3 plain -/
def kn (w : Ln) : Nat := if w.length = 0 then 0 else if ch w 0 = 61 then 1 else if 1 < w.length ∧ ch w 0 = 42 ∧ ch w 1 = 32 then 2 else 3
def lvl (w : Ln) : Nat := if 0 < w.length ∧ ch w 0 = 61 then (if 1 < w.length ∧ ch w 1 = 61 then (if 2 < w.length ∧ ch w 2 = 61 then 3 else 2) else 1) else 0
def clo (bf now : Nat) : Tx := (if bf = 2 ∧ now ≠ 2 then tgX 1 117 108 else []) ++ (if bf = 3 ∧ now ≠ 3 then tgX 1 112 0 else [])
def ctx (th : Int32 → Bool) (w : Ln) (k : Nat) : Tx := ctk th w 50 k false
def rnd (th : Int32 → Bool) (bf : Nat) (w : Ln) : Tx := clo bf (kn w) ++
  (if kn w = 1 then tgX 0 104 (48 + nI (lvl w)) ++ (ctx th w (lvl w) ++ tgX 1 104 (48 + nI (lvl w)))
  else if kn w = 2 then (if bf = 2 then [] else tgX 0 117 108) ++ (tgX 0 108 105 ++ (ctx th w 2 ++ tgX 1 108 105))
  else if kn w = 3 then (if bf = 3 then [32] else tgX 0 112 0) ++ ctx th w 0
  else [])
def thC (R : List Rv) (c : Int32) : Bool := thX R (c - 65)
section MODR
variable {d : Nat} {Q : Option AV → AH → Prop} {H : AH} {g : Nat → Nat → Int32} {x y z a b c : Int32} {T : Tx} {w : Ln} {R : List Rv}
theorem c_show1 (hd : 1 ≤ d) (hF : Fix H) (h : SO g T) (k : ∀ g', SF g g' → SO g' (T ++ [x]) → Q none (wi H g')) : cwp d 160 [vR 58, vI x] (wi H g) Q := by
  have e : (200 : Int32) ≤ g 58 21 ↔ 200 ≤ T.length := by rw [h.1, show (200 : Int32) = nI 200 from rfl, nI_leI (by decide) (by omega)]; omega
  have hla : (T ++ [x]).length = T.length + 1 := by simp
  refine e_Model_show1 hd (hF.c 58 31 rfl) (f_Model_show1_0 hF (fun q => ?_) (fun q => ?_) (fun q => ?_))
  · rw [e] at q
    rw [h.1]
    exact vp_in_nI (by omega) (by decide)
  · rw [e] at q
    refine k g SF.rf ⟨by rw [h.1, hla]; congr 1; omega, fun j hj => ?_⟩
    rw [hla] at hj
    rw [h.2 j (by omega), tf_l (by omega)]
  · rw [e] at q
    have e1 : min 200 T.length = T.length := by omega
    have e2 : min 200 (T ++ [x]).length = T.length + 1 := by rw [hla]; omega
    have h1 := h.1
    have h2 := h.2
    rw [e1] at h1 h2
    refine k _ ⟨fun a q1 q2 => by rw [u2_na q1, u2_na q2], fun j hj => by rw [u2_ne (Or.inr hj), u2_ne (Or.inl (by decide))]⟩ ⟨by rw [u2_self, h1, nI_1, e2], fun j hj => ?_⟩
    rw [e2] at hj
    rw [u2_ne (Or.inl (by decide)), h1, nI_clamp (by omega)]
    by_cases ej : j = T.length
    · subst ej
      rw [u2_self, tf_e]
    · rw [u2_ne (Or.inr ej), h2 j (by omega), tf_l (by omega)]
theorem c_tag (hd : 2 ≤ d) (hF : Fix H) (h : SO g T) (k : ∀ g', SF g g' → SO g' (T ++ tgX z a b) → Q none (wi H g')) : cwp d 161 [vR 58, vI z, vI a, vI b] (wi H g) Q := by
  refine e_Model_tag (by omega) (hF.c 58 31 rfl) (f_Model_tag_0 hF (c_show1 (by omega) hF h (fun g1 f1 s1 => ?_)))
  have part2 : ∀ g1 U, SF g g1 → SO g1 U → U = T ++ 60 :: (if z = 0 then [] else [47]) → cwp (d - 1) 160 [vR 58, vI a] (wi H g1) (fun r1 H1 => wp (d - 1) sc_Model_tag 21 [vR 58, vI z, vI a, vI b] (r1.toList ++ []) H1 Q) := by
    intro g1 U f1 s1 eU
    refine c_show1 (by omega) hF s1 (fun g2 f2 s2 => ?_)
    refine f_Model_tag_21 hF (fun q => ?_) (fun q => ?_)
    · refine c_show1 (by omega) hF s2 (fun g3 f3 s3 => f_Model_tag_36 hF (k g3 ((f1.trans f2).trans f3) ?_))
      have : T ++ tgX z a b = U ++ [a] ++ [62] := by rw [eU]; unfold tgX; rw [if_pos q]; simp
      rw [this]
      exact s3
    · refine c_show1 (by omega) hF s2 (fun g3 f3 s3 => f_Model_tag_30 hF (c_show1 (by omega) hF s3 (fun g4 f4 s4 => f_Model_tag_36 hF (k g4 (((f1.trans f2).trans f3).trans f4) ?_))))
      have : T ++ tgX z a b = U ++ [a] ++ [b] ++ [62] := by rw [eU]; unfold tgX; rw [if_neg q]; simp
      rw [this]
      exact s4
  refine f_Model_tag_6 hF (fun q => ?_) (fun q => ?_)
  · exact part2 g1 _ f1 s1 (by rw [if_pos q])
  · refine c_show1 (by omega) hF s1 (fun g2 f2 s2 => f_Model_tag_16 hF ?_)
    exact part2 g2 _ (f1.trans f2) s2 (by rw [if_neg q]; simp)
theorem c_named (hd : 2 ≤ d) (hF : Fix H) (h : SO g T) (k : ∀ g', SF g g' → SO g' (T ++ nmX a b c) → Q none (wi H g')) : cwp d 162 [vR 58, vI a, vI b, vI c] (wi H g) Q := by
  refine e_Model_named (by omega) (hF.c 58 31 rfl) (f_Model_named_0 hF (c_show1 (by omega) hF h (fun g1 f1 s1 => ?_)))
  refine f_Model_named_6 hF (c_show1 (by omega) hF s1 (fun g2 f2 s2 => ?_))
  refine f_Model_named_11 hF (c_show1 (by omega) hF s2 (fun g3 f3 s3 => ?_))
  refine f_Model_named_16 hF (fun q => ?_) (fun q => ?_)
  · refine c_show1 (by omega) hF s3 (fun g4 f4 s4 => f_Model_named_31 hF (k g4 (((f1.trans f2).trans f3).trans f4) ?_))
    have : T ++ nmX a b c = T ++ [38] ++ [a] ++ [b] ++ [59] := by unfold nmX; rw [if_pos q]; simp
    rw [this]
    exact s4
  · refine c_show1 (by omega) hF s3 (fun g4 f4 s4 => f_Model_named_25 hF (c_show1 (by omega) hF s4 (fun g5 f5 s5 => f_Model_named_31 hF (k g5 ((((f1.trans f2).trans f3).trans f4).trans f5) ?_))))
    have : T ++ nmX a b c = T ++ [38] ++ [a] ++ [b] ++ [c] ++ [59] := by unfold nmX; rw [if_neg q]; simp
    rw [this]
    exact s5
theorem lm_ct {x1 : Int32} (hd : 2 ≤ d) (hF : Fix H) (hR : RRv g R) (hw : LW g w) : ∀ (n k : Nat) (bo : Bool) (T : Tx) (g1 : Nat → Nat → Int32) (u4 u5 : AV), w.length + 1 ≤ n + k → k ≤ w.length → SF g g1 → SO g1 T → (∀ g', SF g g' → SO g' (T ++ ctk (thC R) w n k bo) → Q none (wi H g')) →
    wp d sc_Model_content 4 [vR 58, vI x1, vI (zB bo), vI (nI k), u4, u5] [] (wi H g1) Q := by
  have h40 := hw.1
  intro n
  induction n with
  | zero => intro k bo T g1 u4 u5 h1 h2; omega
  | succ n ih =>
    intro k bo T g1 u4 u5 hn hk hf hs kk
    have hw1 := hw.sf hf
    have hc : (nI k).toNatClampNeg = k := nI_clamp (by omega)
    have eL : g1 58 15 ≤ nI k ↔ w.length ≤ k := by rw [hw1.2.1, nI_leI (by omega) (by omega)]
    by_cases hlt : w.length ≤ k
    · have z := eL.mpr hlt
      have es : ctk (thC R) w (n + 1) k bo = if bo = true then [60, 47, 98, 62] else [] := by rw [ctk, if_pos hlt]
      rw [es] at kk
      refine f_Model_content_4 hF (fun q => absurd z q) (fun q => absurd z q) (fun _ q => ?_) (fun _ q => ?_) (fun q => absurd z q) (fun q => absurd z q) (fun q => absurd z q) (fun q => absurd z q)
      · rw [zB_0] at q
        subst q
        rw [if_neg (by decide), List.append_nil] at kk
        exact kk g1 hf hs
      · rw [zB_0] at q
        have q2 : bo = true := by simpa using q
        subst q2
        rw [if_pos rfl] at kk
        exact c_tag hd hF hs (fun g2 f2 s2 => f_Model_content_229 hF (kk g2 (hf.trans f2) s2))
    · have z : ¬ g1 58 15 ≤ nI k := fun q => hlt (eL.mp q)
      have hv : vp_in (nI k) 40 := vp_in_nI (by omega) (by decide)
      have e1 : nI k + 1 = nI (k + 1) := nI_1 k
      have eL1 : g1 58 15 ≤ nI k + 1 ↔ w.length ≤ k + 1 := by rw [hw1.2.1, e1, nI_leI (by omega) (by omega)]
      have hg : g1 66 (nI k).toNatClampNeg = ch w k := by rw [hc]; exact hw1.2.2 k (by omega)
      have go : ¬ two w k 42 → cwp d 156 [vR 58, vI (nI k), vI (g1 58 15)] (wi H g1) (fun r1 H1 => wp d sc_Model_content 83 [vR 58, vI x1, vI (zB bo), vI (nI k), vI (ch w k), u5] (r1.toList ++ []) H1 Q) := by
        intro h2
        rw [hw1.2.1]
        refine c_linked (j := k) hd hF hw1 (by omega) (fun r hr => ?_)
        rcases hr with ⟨hr, rfl⟩ | ⟨hr, rfl⟩
        · have e2 : nI k + 2 = nI (k + 2) := nI_add k 2
          have hlt5 := hr.1
          have hv2 : vp_in (nI k + 2) 40 := by rw [e2]; exact vp_in_nI (by omega) (by decide)
          have hg2 : ∀ g2, SF g g2 → g2 66 (nI k + 2).toNatClampNeg = ch w (k + 2) := fun g2 hf2 => by rw [e2, nI_clamp (by omega), (hw.sf hf2).2.2 _ (by omega)]
          have es : ctk (thC R) w (n + 1) k bo = (if thC R (ch w (k + 2)) = true then [60, 97, 62, ch w (k + 2), 60, 47, 97, 62] else [60, 117, 62, ch w (k + 2), 60, 47, 117, 62]) ++ ctk (thC R) w n (k + 5) bo := by rw [ctk, if_neg hlt, if_neg h2, if_pos hr]
          have fin : ∀ (t : Int32) (g2 : Nat → Nat → Int32), SF g g2 → SO g2 T → (if thC R (ch w (k + 2)) = true then [60, 97, 62, ch w (k + 2), 60, 47, 97, 62] else [60, 117, 62, ch w (k + 2), 60, 47, 117, 62]) = ([60, t, 62, ch w (k + 2), 60, 47, t, 62] : Tx) → cwp d 161 [vR 58, vI 0, vI t, vI 0] (wi H g2) (fun r1 H1 => wp d sc_Model_content 121 [vR 58, vI x1, vI (zB bo), vI (nI k), vI (ch w k), vI t] (r1.toList ++ []) H1 Q) := by
            intro t g2 f2 s2 et
            refine c_tag hd hF s2 (fun g3 f3 s3 => ?_)
            have f03 := f2.trans f3
            refine f_Model_content_121 hF hv2 ?_
            rw [hg2 g3 f03]
            refine c_show1 (by omega) hF s3 (fun g4 f4 s4 => f_Model_content_133 hF (c_tag hd hF s4 (fun g5 f5 s5 => f_Model_content_141 hF ?_)))
            rw [show nI k + 5 = nI (k + 5) from nI_add k 5]
            refine ih (k + 5) bo _ g5 _ _ (by omega) (by omega) ((f03.trans f4).trans f5) s5 (fun g' f' s' => kk g' f' ?_)
            rw [es, et]
            have : T ++ ([60, t, 62, ch w (k + 2), 60, 47, t, 62] ++ ctk (thC R) w n (k + 5) bo) = T ++ tgX 0 t 0 ++ [ch w (k + 2)] ++ tgX 1 t 0 ++ ctk (thC R) w n (k + 5) bo := by simp [tgX]
            rw [this]
            exact s'
          refine f_Model_content_83 hF (fun _ => hv2) (fun q => absurd q (by decide)) (fun q => absurd q (by decide)) (fun q => absurd q (by decide)) (fun q => absurd q (by decide)) (fun _ => ?_)
          rw [hg2 g1 hf]
          refine c_isThere hd hF (hR.sf hf) (fun r hr2 => ?_)
          rw [← thX_iff] at hr2
          rcases hr2 with ⟨ht, rfl⟩ | ⟨ht, rfl⟩
          · exact f_Model_content_101 hF (fun q => absurd q (by decide)) (fun _ => fin 97 g1 hf hs (if_pos ht))
          · exact f_Model_content_101 hF (fun _ => fin 117 g1 hf hs (if_neg ht)) (fun q => absurd rfl q)
        · have es : ctk (thC R) w (n + 1) k bo = esc (ch w k) ++ ctk (thC R) w n (k + 1) bo := by rw [ctk, if_neg hlt, if_neg h2, if_neg hr]
          have fin : ∀ g2 U, SF g g2 → SO g2 U → U = T ++ esc (ch w k) → ∀ u4 u5, wp d sc_Model_content 4 [vR 58, vI x1, vI (zB bo), vI (nI k + 1), u4, u5] [] (wi H g2) Q := by
            intro g2 U f2 s2 eU u4 u5
            rw [e1]
            refine ih (k + 1) bo U g2 _ _ (by omega) (by omega) f2 s2 (fun g' f' s' => kk g' f' ?_)
            rw [es, ← List.append_assoc, ← eU]
            exact s'
          refine f_Model_content_83 hF (fun q => absurd rfl q) (fun _ q1 q2 q3 => ?_) (fun _ q1 q2 q3 => ?_) (fun _ q1 q2 => ?_) (fun _ q1 => ?_) (fun q => absurd rfl q)
          · exact c_show1 (by omega) hF hs (fun g2 f2 s2 => f_Model_content_211 hF (fin g2 _ (hf.trans f2) s2 (by unfold esc; rw [if_neg q1, if_neg q2, if_neg q3]) _ _))
          · exact c_named hd hF hs (fun g2 f2 s2 => f_Model_content_202 hF (fin g2 _ (hf.trans f2) s2 (by unfold esc; rw [if_neg q1, if_neg q2, if_pos q3]; rfl) _ _))
          · exact c_named hd hF hs (fun g2 f2 s2 => f_Model_content_183 hF (fin g2 _ (hf.trans f2) s2 (by unfold esc; rw [if_neg q1, if_pos q2]; rfl) _ _))
          · exact c_named hd hF hs (fun g2 f2 s2 => f_Model_content_164 hF (fin g2 _ (hf.trans f2) s2 (by unfold esc; rw [if_pos q1]; rfl) _ _))
      refine f_Model_content_4 hF (fun _ => hv) (fun _ _ q => ?_) (fun q => absurd q z) (fun q => absurd q z) (fun _ q => ?_) (fun _ q q2 => ?_) (fun _ q q2 q3 => ?_) (fun _ q q2 q3 => ?_)
      · rw [eL1] at q
        rw [e1]
        exact vp_in_nI (by omega) (by decide)
      · rw [hg] at q ⊢
        exact go (fun q2 => q q2.2.1)
      · rw [hg]
        rw [eL1] at q2
        exact go (fun q3 => by have := q3.1; omega)
      · rw [hg] at q ⊢
        rw [eL1] at q2
        rw [e1, nI_clamp (by omega), hw1.2.2 _ (by omega)] at q3
        exact go (fun q4 => q3 q4.2.2)
      · rw [hg] at q ⊢
        rw [eL1] at q2
        rw [e1, nI_clamp (by omega), hw1.2.2 _ (by omega)] at q3
        have h2 : two w k 42 := ⟨by omega, q, q3⟩
        have es : ctk (thC R) w (n + 1) k bo = (if bo = true then [60, 47, 98, 62] else [60, 98, 62]) ++ ctk (thC R) w n (k + 2) (!bo) := by rw [ctk, if_neg hlt, if_pos h2]
        have e2 : nI k + 2 = nI (k + 2) := nI_add k 2
        refine c_tag hd hF hs (fun g2 f2 s2 => f_Model_content_58 hF (fun q => ?_) (fun q => ?_))
        · rw [zB_0] at q
          have q2 : bo = true := by simpa using q
          subst q2
          rw [e2]
          refine ih (k + 2) false _ g2 _ _ (by omega) (by omega) (hf.trans f2) s2 (fun g' f' s' => kk g' f' ?_)
          rw [es, if_pos rfl, ← List.append_assoc]
          exact s'
        · rw [zB_0] at q
          subst q
          rw [e2]
          refine ih (k + 2) true _ g2 _ _ (by omega) (by omega) (hf.trans f2) s2 (fun g' f' s' => kk g' f' ?_)
          rw [es, if_neg (by decide), ← List.append_assoc]
          exact s'
theorem c_content {j : Nat} (hd : 3 ≤ d) (hF : Fix H) (hR : RRv g R) (hw : LW g w) (hj : j ≤ w.length) (h : SO g T) (k : ∀ g', SF g g' → SO g' (T ++ ctx (thC R) w j) → Q none (wi H g')) : cwp d 163 [vR 58, vI (nI j)] (wi H g) Q := by
  have h40 := hw.1
  refine e_Model_content (by omega) (hF.c 58 31 rfl) (f_Model_content_0 hF ?_)
  exact lm_ct (d := d - 1) (by omega) hF hR hw 50 j false T g _ _ (by omega) hj SF.rf h k
theorem c_kind (hd : 1 ≤ d) (hF : Fix H) (hw : LW g w) (k : Q (some (vI (nI (kn w)))) (wi H g)) : cwp d 164 [vR 58] (wi H g) Q := by
  have h40 := hw.1
  have e0 : g 58 15 = 0 ↔ w.length = 0 := by rw [hw.2.1, show (0 : Int32) = nI 0 from rfl, nI_eq (by omega) (by decide)]
  have e1 : g 58 15 ≤ 1 ↔ w.length ≤ 1 := by rw [hw.2.1, show (1 : Int32) = nI 1 from rfl, nI_leI (by omega) (by decide)]
  have r3 : ¬ w.length = 0 → ¬ ch w 0 = 61 → ¬ (1 < w.length ∧ ch w 0 = 42 ∧ ch w 1 = 32) → kn w = 3 := fun a b c => by unfold kn; rw [if_neg a, if_neg b, if_neg c]
  refine e_Model_kind hd (hF.c 58 31 rfl) (f_Model_kind_0 hF (fun q q1 q2 => ?_) (fun q q1 q2 q3 => ?_) (fun q q1 q2 q3 q4 => ?_) (fun q q1 q2 q3 q4 => ?_) (fun q q1 => ?_) (fun q => ?_))
  · rw [e0] at q; rw [hw.2.2 0 (by omega)] at q1; rw [e1] at q2
    rw [r3 q q1 (fun z => by have := z.1; omega)] at k
    exact k
  · rw [e0] at q; rw [hw.2.2 0 (by omega)] at q1 q3; rw [e1] at q2
    rw [r3 q q1 (fun z => q3 z.2.1)] at k
    exact k
  · rw [e0] at q; rw [e1] at q2; rw [hw.2.2 0 (by omega)] at q1 q3; rw [hw.2.2 1 (by omega)] at q4
    rw [r3 q q1 (fun z => q4 z.2.2)] at k
    exact k
  · rw [e0] at q; rw [e1] at q2; rw [hw.2.2 0 (by omega)] at q1 q3; rw [hw.2.2 1 (by omega)] at q4
    rw [show kn w = 2 by unfold kn; rw [if_neg q, if_neg q1, if_pos ⟨by omega, q3, q4⟩]] at k
    exact k
  · rw [e0] at q; rw [hw.2.2 0 (by omega)] at q1
    rw [show kn w = 1 by unfold kn; rw [if_neg q, if_pos q1]] at k
    exact k
  · rw [e0] at q
    rw [show kn w = 0 by unfold kn; rw [if_pos q]] at k
    exact k
end MODR
