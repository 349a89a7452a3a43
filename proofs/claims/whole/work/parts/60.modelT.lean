/-! the reference: a page is shown -/
def mrk (R : List Rv) (ins : List Nat) (w : Ln) : Option Int32 := if thX R (ch w 2 - 65) = true then (if ins.any (fun q => decide (nI q = ch w 2 - 65)) = true then some 33 else if ins.length = 4 then some 94 else none) else some 63
def ntx (R : List Rv) (p : Nat) : Tx := rtx (pg R p) (pg R p).length
/-- the lines of a page with what they include -/
def exl (R : List Rv) : Nat → List Nat → Int32 → List Ln → List Ln
  | 0, _, _, _ => []
  | n + 1, ins, c, ws => ws.flatMap (fun w => if inc (fl c w) then (match mrk R ins (fl c w) with
    | some m => [[m, ch (fl c w) 2]]
    | none => exl R n (ins ++ [(ch (fl c w) 2 - 65).toNatClampNeg]) (if (fl c w).length = 6 then ch (fl c w) 3 else -1) (LN (ntx R (ch (fl c w) 2 - 65).toNatClampNeg))) else [fl c w])
def rls (th : Int32 → Bool) : Nat → List Ln → Tx
  | bf, [] => clo bf 0
  | bf, w :: ws => rnd th bf w ++ rls th (kn w) ws
def full (R : List Rv) (p : Nat) : Tx := rls (thC R) 0 (exl R 4 [p] (-1) (LN (ntx R p)))
theorem exl_nil (R : List Rv) (n : Nat) (ins : List Nat) (c : Int32) : exl R n ins c [] = [] := by cases n <;> simp [exl]
theorem exl_c (R : List Rv) (n : Nat) (ins : List Nat) (c : Int32) (w : Ln) (ws : List Ln) : exl R (n + 1) ins c (w :: ws) = (if inc (fl c w) then (match mrk R ins (fl c w) with
    | some m => [[m, ch (fl c w) 2]]
    | none => exl R n (ins ++ [(ch (fl c w) 2 - 65).toNatClampNeg]) (if (fl c w).length = 6 then ch (fl c w) 3 else -1) (LN (ntx R (ch (fl c w) 2 - 65).toNatClampNeg))) else [fl c w]) ++ exl R (n + 1) ins c ws := by
  rw [exl, exl, List.flatMap_cons]
def XF (g g' : Nat → Nat → Int32) : Prop := (∀ a, a ≠ 58 → a ≠ 66 → a ≠ 67 → a ≠ 68 → a ≠ 69 → a ≠ 70 → g' a = g a) ∧ ∀ j, j ≠ 15 → j ≠ 16 → j ≠ 21 → g' 58 j = g 58 j
theorem XF.rf {g : Nat → Nat → Int32} : XF g g := ⟨fun _ _ _ _ _ _ _ => rfl, fun _ _ _ _ => rfl⟩
theorem XF.trans {g g' g'' : Nat → Nat → Int32} (h : XF g g') (h2 : XF g' g'') : XF g g'' := ⟨fun a q1 q2 q3 q4 q5 q6 => by rw [h2.1 a q1 q2 q3 q4 q5 q6, h.1 a q1 q2 q3 q4 q5 q6], fun j h1 h3 h4 => by rw [h2.2 j h1 h3 h4, h.2 j h1 h3 h4]⟩
theorem NL.xf {g g' : Nat → Nat → Int32} (h : NL g g') : XF g g' := ⟨fun a q1 q2 _ _ _ _ => h.1 a q1 q2, fun j q _ _ => h.2 j q⟩
theorem SF.xf {g g' : Nat → Nat → Int32} (h : SF g g') : XF g g' := ⟨fun a q1 _ _ _ _ q2 => h.1 a q1 q2, fun j _ _ q => h.2 j q⟩
theorem RRv.xf {g g' : Nat → Nat → Int32} {R : List Rv} (h : RRv g R) (hf : XF g g') : RRv g' R := h.fr (hf.1 59 (by decide) (by decide) (by decide) (by decide) (by decide) (by decide)) (hf.1 60 (by decide) (by decide) (by decide) (by decide) (by decide) (by decide)) (hf.1 61 (by decide) (by decide) (by decide) (by decide) (by decide) (by decide)) (hf.1 62 (by decide) (by decide) (by decide) (by decide) (by decide) (by decide)) (hf.2 2 (by decide) (by decide) (by decide))
/-- page, place, filler of each page that is open -/
def FR (g : Nat → Nat → Int32) (F : List (Nat × Nat × Int32)) : Prop := ∀ i f, F[i]? = some f → g 67 i = nI f.1 ∧ g 68 i = nI f.2.1 ∧ g 69 i = f.2.2
theorem FR.ini {g : Nat → Nat → Int32} {F G : List (Nat × Nat × Int32)} (h : FR g (F ++ G)) : FR g F := fun i f hi => h i f (by rw [List.getElem?_append_left (List.getElem?_eq_some_iff.mp hi).1]; exact hi)
theorem FR.top {g : Nat → Nat → Int32} {F : List (Nat × Nat × Int32)} {f : Nat × Nat × Int32} (h : FR g (F ++ [f])) : g 67 F.length = nI f.1 ∧ g 68 F.length = nI f.2.1 ∧ g 69 F.length = f.2.2 := h F.length f (by simp)
theorem FR.mk {g : Nat → Nat → Int32} {F : List (Nat × Nat × Int32)} {f : Nat × Nat × Int32} (h : FR g F) (h2 : g 67 F.length = nI f.1 ∧ g 68 F.length = nI f.2.1 ∧ g 69 F.length = f.2.2) : FR g (F ++ [f]) := by
  intro i e hi
  rcases Nat.lt_or_ge i F.length with q | q
  · rw [List.getElem?_append_left q] at hi
    exact h i e hi
  · have hl := (List.getElem?_eq_some_iff.mp hi).1
    simp only [List.length_append, List.length_cons, List.length_nil] at hl
    have e2 : i = F.length := by omega
    subst e2
    rw [List.getElem?_append_right (Nat.le_refl _), Nat.sub_self] at hi
    cases hi
    exact h2
theorem FR.eq {g g' : Nat → Nat → Int32} {F : List (Nat × Nat × Int32)} (h : FR g F) (h1 : ∀ i, i < F.length → g' 67 i = g 67 i ∧ g' 68 i = g 68 i ∧ g' 69 i = g 69 i) : FR g' F := fun i f hi => by
  obtain ⟨a, b, c⟩ := h1 i (List.getElem?_eq_some_iff.mp hi).1
  rw [a, b, c]
  exact h i f hi
theorem SO.cut {g : Nat → Nat → Int32} {U V W : Tx} (h : SO g (U ++ V)) (hl : 200 ≤ U.length) : SO g (U ++ W) := by
  have e1 : min 200 (U ++ V).length = 200 := by rw [List.length_append]; omega
  have e2 : min 200 (U ++ W).length = 200 := by rw [List.length_append]; omega
  obtain ⟨h1, h2⟩ := h
  rw [e1] at h1 h2
  refine ⟨by rw [e2]; exact h1, fun j hj => ?_⟩
  rw [e2] at hj
  rw [h2 j hj, tf_l (by omega), tf_l (by omega)]
section MODT
variable {d : Nat} {Q : Option AV → AH → Prop} {H : AH} {g : Nat → Nat → Int32} {x y z a b c x1 : Int32} {T : Tx} {w : Ln} {R : List Rv} {bf : Nat} {ins : List Nat}
theorem lm_bar (hd : 2 ≤ d) (hF : Fix H) (hi : ∀ i q, ins[i]? = some q → g 67 i = nI q) (hD : g 58 16 = nI ins.length) (h4 : ins.length ≤ 4)
    (k : cwp d 130 [vR 58, vI x1] (wi H g) (fun r1 H1 => wp d sc_Model_barred 53 [vR 58, vI x1, vI (zB (ins.any (fun q => decide (nI q = x1)))), vI (nI ins.length)] (r1.toList ++ []) H1 Q)) :
    ∀ m i, i + m = ins.length → wp d sc_Model_barred 14 [vR 58, vI x1, vI (zB ((ins.take i).any (fun q => decide (nI q = x1)))), vI (nI i)] [] (wi H g) Q := by
  intro m
  induction m with
  | zero =>
    intro i him
    have e : i = ins.length := by omega
    have z : g 58 16 ≤ nI i := by rw [hD, e]; exact nI_le (by omega) (by omega)
    refine f_Model_barred_14 hF (fun q => absurd z q) (fun _ => ?_) (fun q => absurd z q) (fun q => absurd z q) (fun q => absurd z q)
    rw [e, List.take_length]
    exact k
  | succ m ih =>
    intro i him
    have hlt : i < ins.length := by omega
    have z : ¬ g 58 16 ≤ nI i := by rw [hD]; exact nI_ge hlt (by omega)
    have hg : g 67 (nI i).toNatClampNeg = nI ins[i] := by rw [nI_clamp (by omega)]; exact hi i _ (List.getElem?_eq_getElem hlt)
    have h2 := ih (i + 1) (by omega)
    have hs : (ins.take (i + 1)).any (fun q => decide (nI q = x1)) = ((ins.take i).any (fun q => decide (nI q = x1)) || decide (nI ins[i] = x1)) := by
      rw [List.take_add_one, List.getElem?_eq_getElem hlt, List.any_append]
      simp
    rw [hs] at h2
    refine f_Model_barred_14 hF (fun _ _ => vp_in_nI (by omega) (by decide)) (fun q => absurd q z) (fun _ q => ?_) (fun _ q q2 => ?_) (fun _ q q2 => ?_)
    · rw [zB_0] at q
      have q3 : (ins.take i).any (fun q => decide (nI q = x1)) = true := by simpa using q
      rw [q3] at h2
      rw [nI_1]
      exact h2
    · rw [zB_0] at q
      rw [hg] at q2
      rw [q, decide_eq_false q2] at h2
      rw [nI_1]
      exact h2
    · rw [zB_0] at q
      rw [hg] at q2
      rw [q, decide_eq_true q2] at h2
      rw [nI_1]
      exact h2
theorem c_barred (hd : 3 ≤ d) (hF : Fix H) (hR : RRv g R) (hw : LW g w) (hin : inc w) (hi : ∀ i q, ins[i]? = some q → g 67 i = nI q) (hD : g 58 16 = nI ins.length) (h4 : ins.length ≤ 4)
    (k0 : mrk R ins w = none → Q (some (vI 0)) (wi H g)) (k1 : ∀ m g', mrk R ins w = some m → NL g g' → LW g' [m, ch w 2] → Q (some (vI 1)) (wi H g')) : cwp d 166 [vR 58] (wi H g) Q := by
  have hlen : 2 < w.length := by have := hin.1; omega
  have h66 : g 66 2 = ch w 2 := hw.2.2 2 hlen
  refine e_Model_barred (by omega) (hF.c 58 31 rfl) (f_Model_barred_0 hF ?_)
  rw [h66]
  have e65 : (65 : Int32) + (ch w 2 - 65) = ch w 2 := by rw [Int32.add_comm]; exact Int32.sub_add_cancel _ _
  have hm : ∀ m, NL g (sm_u2 (sm_u2 (sm_u2 g 66 0 m) 66 1 (65 + (ch w 2 - 65))) 58 15 2) ∧ LW (sm_u2 (sm_u2 (sm_u2 g 66 0 m) 66 1 (65 + (ch w 2 - 65))) 58 15 2) [m, ch w 2] := fun m => by
    refine ⟨⟨fun a a1 a2 => by rw [u2_na a1, u2_na a2, u2_na a2], fun j hj => by rw [u2_ne (Or.inr hj), u2_ne (Or.inl (by decide)), u2_ne (Or.inl (by decide))]⟩, show 2 ≤ 40 by decide, by rw [u2_self]; rfl, fun j hj => ?_⟩
    have hj2 : j = 0 ∨ j = 1 := by simp at hj; omega
    rcases hj2 with rfl | rfl
    · rw [u2_ne (Or.inl (by decide)), u2_ne (Or.inr (by decide)), u2_self]; rfl
    · rw [u2_ne (Or.inl (by decide)), u2_self, e65]; rfl
  have h14 := lm_bar (d := d - 1) (Q := Q) (x1 := ch w 2 - 65) (by omega) hF hi hD h4 (c_isThere (by omega) hF hR (fun r hr => ?_)) ins.length 0 (by omega)
  · exact h14
  · rw [← thX_iff] at hr
    rcases hr with ⟨ht, rfl⟩ | ⟨ht, rfl⟩
    · refine f_Model_barred_53 hF (fun _ q q2 => ?_) (fun _ q q2 => ?_) (fun _ q => ?_) (fun q => absurd q (by decide))
      · rw [zB_0] at q
        rw [hD, show (4 : Int32) = nI 4 from rfl, nI_eq (by omega) (by decide)] at q2
        exact k0 (by unfold mrk; rw [if_pos ht, if_neg (by rw [q]; decide), if_neg q2])
      · rw [zB_0] at q
        rw [hD, show (4 : Int32) = nI 4 from rfl, nI_eq (by omega) (by decide)] at q2
        exact k1 94 _ (by unfold mrk; rw [if_pos ht, if_neg (by rw [q]; decide), if_pos q2]) (hm 94).1 (hm 94).2
      · rw [zB_0] at q
        exact k1 33 _ (by unfold mrk; rw [if_pos ht, if_pos (by simpa using q)]) (hm 33).1 (hm 33).2
    · refine f_Model_barred_53 hF (fun q => absurd rfl q) (fun q => absurd rfl q) (fun q => absurd rfl q) (fun _ => ?_)
      exact k1 63 _ (by unfold mrk; rw [if_neg ht]) (hm 63).1 (hm 63).2
theorem c_enterPage {F : List (Nat × Nat × Int32)} {p : Nat} (hd : 1 ≤ d) (hF : Fix H) (hD : g 58 16 = nI F.length) (h4 : F.length < 4) (hf : FR g F)
    (k : ∀ g', XF g g' → FR g' (F ++ [(p, 0, c)]) → g' 58 16 = nI (F.length + 1) → g' 58 21 = g 58 21 → g' 70 = g 70 → Q none (wi H g')) : cwp d 167 [vR 58, vI (nI p), vI c] (wi H g) Q := by
  have hc : (g 58 16).toNatClampNeg = F.length := by rw [hD]; exact nI_clamp (by omega)
  refine e_Model_enterPage hd (hF.c 58 31 rfl) (f_Model_enterPage_0 hF (by rw [hD]; exact vp_in_nI h4 (by decide)) ?_)
  rw [hc]
  refine k _ ⟨fun a q1 q2 q3 q4 q5 q6 => by rw [u2_na q1, u2_na q5, u2_na q4, u2_na q3], fun j _ q _ => by rw [u2_ne (Or.inr q), u2_ne (Or.inl (by decide)), u2_ne (Or.inl (by decide)), u2_ne (Or.inl (by decide))]⟩ (FR.mk (FR.eq hf (fun i hi => ?_)) ?_) ?_ ?_ ?_
  · have hne : i ≠ F.length := by omega
    exact ⟨by rw [u2_ne (Or.inl (by decide)), u2_ne (Or.inl (by decide)), u2_ne (Or.inl (by decide)), u2_ne (Or.inr hne)], by rw [u2_ne (Or.inl (by decide)), u2_ne (Or.inl (by decide)), u2_ne (Or.inr hne), u2_ne (Or.inl (by decide))], by rw [u2_ne (Or.inl (by decide)), u2_ne (Or.inr hne), u2_ne (Or.inl (by decide)), u2_ne (Or.inl (by decide))]⟩
  · exact ⟨by rw [u2_ne (Or.inl (by decide)), u2_ne (Or.inl (by decide)), u2_ne (Or.inl (by decide)), u2_self], by rw [u2_ne (Or.inl (by decide)), u2_ne (Or.inl (by decide)), u2_self]; rfl, by rw [u2_ne (Or.inl (by decide)), u2_self]⟩
  · rw [u2_self, hD, nI_1]
  · rw [u2_ne (Or.inr (by decide)), u2_ne (Or.inl (by decide)), u2_ne (Or.inl (by decide)), u2_ne (Or.inl (by decide))]
  · rw [u2_na (by decide), u2_na (by decide), u2_na (by decide), u2_na (by decide)]
theorem lm_x {u3 u4 : AV} (hd : 2 ≤ d) (hF : Fix H) (hbf : bf ≤ 3) (hs : SO g T) (hex : g 58 16 ≤ 0 ∨ 200 ≤ T.length) (k : ∀ g', SF g g' → SO g' (T ++ clo bf 0) → Q (some (vI (g' 58 21))) (wi H g')) :
    wp d sc_Model_show 35 [vR 58, vI x1, vI (nI bf), u3, u4] [] (wi H g) Q := by
  have eb2 : nI bf = 2 ↔ bf = 2 := by rw [show (2 : Int32) = nI 2 from rfl, nI_eq (by omega) (by decide)]
  have eb3 : nI bf = 3 ↔ bf = 3 := by rw [show (3 : Int32) = nI 3 from rfl, nI_eq (by omega) (by decide)]
  have e200 : (200 : Int32) ≤ g 58 21 ↔ 200 ≤ T.length := by rw [hs.1, show (200 : Int32) = nI 200 from rfl, nI_leI (by decide) (by omega)]; omega
  have p0 : ¬ nI bf = 2 → ¬ nI bf = 3 → Q (some (vI (g 58 21))) (wi H g) := fun a b => k g SF.rf (by rw [clo_n (fun z => a (eb2.mpr z.1)) (fun z => b (eb3.mpr z.1)), List.append_nil]; exact hs)
  have p3 : nI bf = 3 → cwp d 161 [vR 58, vI 1, vI 112, vI 0] (wi H g) (fun r1 H1 => wp d sc_Model_show 223 [vR 58, vI x1, vI (nI bf), u3, u4] (r1.toList ++ []) H1 Q) := fun a => by
    have e := eb3.mp a
    subst e
    exact c_tag hd hF hs (fun g1 f1 s1 => f_Model_show_223 hF (k g1 f1 (by rw [clo_3 (by decide)]; exact s1)))
  have p2 : nI bf = 2 → cwp d 161 [vR 58, vI 1, vI 117, vI 108] (wi H g) (fun r1 H1 => wp d sc_Model_show 210 [vR 58, vI x1, vI (nI bf), u3, u4] (r1.toList ++ []) H1 Q) := fun a => by
    have e := eb2.mp a
    subst e
    exact c_tag hd hF hs (fun g1 f1 s1 => f_Model_show_210 hF (fun _ => k g1 f1 (by rw [clo_2 (by decide)]; exact s1)) (fun q => absurd q (by decide)))
  exact f_Model_show_35 hF (fun a b => absurd hex (fun z => z.elim a (fun z => b (e200.mpr z)))) (fun _ a b => p0 a b) (fun _ _ a => p3 a) (fun _ a => p2 a) (fun _ _ a b => p0 a b) (fun _ _ _ a => p3 a) (fun _ _ a => p2 a) (fun a b => absurd hex (fun z => z.elim a (fun z => b (e200.mpr z))))
end MODT
