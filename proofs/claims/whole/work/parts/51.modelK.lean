/-! the reference: lines are put out -/
theorem tf_app1 {l : Tx} {x : Int32} {j : Nat} (h : j < l.length) : tf (l ++ [x]) j = tf l j := by
  unfold tf
  rw [List.getD_eq_getElem?_getD, List.getD_eq_getElem?_getD, List.getElem?_append_left h]
theorem tf_app2 {l : Tx} {x : Int32} : tf (l ++ [x]) l.length = x := by
  unfold tf
  simp
theorem len_app {l : Tx} {x : Int32} : (l ++ [x]).length = l.length + 1 := by simp
/-- the reference's buffer shows these lines -/
def MB (g : Nat → Nat → Int32) (b : Bool) (O : Tx) : Prop := g 60 26 = (if b = true then nI O.length else -1) ∧ (b = false → O = []) ∧ ∀ j, j < O.length → g 59 (1040 + j) = tf O j
def O26 (g g' : Nat → Nat → Int32) : Prop := (∀ a, a ≠ 59 → a ≠ 60 → g' a = g a) ∧ (∀ j, j < 1040 → g' 59 j = g 59 j) ∧ ∀ s, s ≠ 26 → g' 60 s = g 60 s
theorem O26.rf {g : Nat → Nat → Int32} : O26 g g := ⟨fun _ _ _ => rfl, fun _ _ => rfl, fun _ _ => rfl⟩
theorem O26.trans {g g' g'' : Nat → Nat → Int32} (h : O26 g g') (h2 : O26 g' g'') : O26 g g'' :=
  ⟨fun a q1 q2 => by rw [h2.1 a q1 q2, h.1 a q1 q2], fun j hj => by rw [h2.2.1 j hj, h.2.1 j hj], fun s hs => by rw [h2.2.2 s hs, h.2.2 s hs]⟩
theorem O26.t59 {g : Nat → Nat → Int32} {j : Nat} {v : Int32} (h1 : 1040 ≤ j) : O26 g (sm_u2 g 59 j v) :=
  ⟨fun a q1 _ => u2_na q1, fun k hk => u2_ne (Or.inr (by omega)), fun s _ => u2_ne (Or.inl (by decide))⟩
theorem O26.t60 {g : Nat → Nat → Int32} {v : Int32} : O26 g (sm_u2 g 60 26 v) :=
  ⟨fun a _ q2 => u2_na q2, fun k _ => u2_ne (Or.inl (by decide)), fun s hs => u2_ne (Or.inr hs)⟩
theorem ST.o26 {g g' : Nat → Nat → Int32} {s : Nat} {l : Tx} (h : ST g s l) (ho : O26 g g') (hs : s ≤ 25) : ST g' s l :=
  ⟨by rw [ho.2.2 s (by omega)]; exact h.1, h.2.1, fun j hj => by have := h.2.1; rw [ho.2.1 _ (by omega)]; exact h.2.2 j hj⟩
theorem SL.o26 {g g' : Nat → Nat → Int32} {x : Int32} {l : Tx} (h : SL g x l) (ho : O26 g g') (hne : x ≠ nI 26) : SL g' x l := by
  rcases h with h | ⟨s, h1, rfl, h3, h4, h5⟩
  · exact Or.inl h
  · have : s ≠ 26 := fun e => hne (by rw [e])
    exact (ST.o26 (g := g) (s := s) ⟨h3, h4, h5⟩ ho (by omega)).sl h1
theorem sub_s {X : List Ln} {i q : Nat} {x : Ln} (h : i ≤ q) (hq : X[q]? = some x) : sub X i (q + 1) = sub X i q ++ [x] := by
  unfold sub
  rw [show q + 1 - i = (q - i) + 1 by omega, List.take_add_one, List.getElem?_drop, show i + (q - i) = q by omega, hq]
  rfl
theorem sub_0 (X : List Ln) (i : Nat) : sub X i i = [] := by simp [sub]
theorem sub_c {X : List Ln} {i j : Nat} {x : Ln} (h : i < j) (hq : X[i]? = some x) : sub X i j = x :: sub X (i + 1) j := by
  unfold sub
  rw [drop_q hq, show j - i = (j - (i + 1)) + 1 by omega, List.take_succ_cons]
section MODK
variable {d : Nat} {Q : Option AV → AH → Prop} {H : AH} {g : Nat → Nat → Int32} {x y v : Int32} {l l2 : Tx}
/-- characters of line i from place k on -/
theorem lm_emitC {i : Nat} {x2 x3 : Int32} (hF : Fix H) (h : SL g x l) (hx : x ≠ nI 26) (hi : i < nLn l) :
    ∀ (m k : Nat) (O : Tx) (g1 : Nat → Nat → Int32), k + m = eLn l i → sLn l i ≤ k → O26 g g1 → MB g1 true O → O.length + m ≤ 99 →
    (∀ g', O26 g g' → MB g' true (O ++ (List.range m).map (fun z => tf l (k + z))) → wp d sc_Model_emit 3 [vR 58, vI x, vI x2, vI x3, vI (nI (i + 1)), vI (nI (eLn l i)), vI (nI (eLn l i))] [] (wi H g') Q) →
    wp d sc_Model_emit 66 [vR 58, vI x, vI x2, vI x3, vI (nI i), vI (nI (eLn l i)), vI (nI k)] [] (wi H g1) Q := by
  have hle := h.le
  obtain ⟨e1, e2, -⟩ := eLn_spec hi
  intro m
  induction m with
  | zero =>
    intro k O g1 hk hsk ho hb hl K
    have e : k = eLn l i := by omega
    subst e
    have hn := nLn_le l
    refine f_Model_emit_66 hF (fun q => absurd (nI_le (Nat.le_refl _) (by omega)) q) (fun q => absurd (nI_le (Nat.le_refl _) (by omega)) q) (fun _ => ?_) (fun q => absurd (nI_le (Nat.le_refl _) (by omega)) q)
    rw [nI_1]
    exact K g1 ho (by simpa using hb)
  | succ m ih =>
    intro k O g1 hk hsk ho hb hl K
    have h1 := h.o26 ho hx
    have ha := h1.at (j := k) (by omega)
    obtain ⟨b1, b2, b3⟩ := hb
    rw [if_pos rfl] at b1
    have e10 : (1040 : Int32) + g1 60 26 = nI (1040 + O.length) := by rw [b1]; exact nI_add 1040 O.length
    refine f_Model_emit_66 hF (fun _ => ha.1) (fun _ => by rw [e10]; exact vp_in_nI (by omega) (by decide)) (fun q => absurd q (nI_ge (by omega) (by omega))) (fun _ => ?_)
    rw [e10, nI_clamp (by omega), ha.2, b1, nI_1, nI_1]
    refine ih (k + 1) (O ++ [tf l k]) _ (by omega) (by omega) ((ho.trans (O26.t59 (by omega))).trans O26.t60) ⟨?_, fun z => (by cases z), fun j hj => ?_⟩ (by rw [len_app]; omega) (fun g' ho' hb' => K g' ho' ?_)
    · rw [if_pos rfl, u2_self, len_app]
    · rw [len_app] at hj
      rw [u2_ne (Or.inl (by decide))]
      by_cases e : j = O.length
      · subst e; rw [u2_self, tf_app2]
      · rw [u2_ne (Or.inr (by omega)), tf_app1 (by omega)]; exact b3 j (by omega)
    · rw [List.append_assoc] at hb'
      rw [List.range_succ_eq_map, List.map_cons, List.map_map]
      have : (fun z => tf l (k + z)) ∘ Nat.succ = fun z => tf l (k + 1 + z) := by
        funext z
        show tf l (k + (z + 1)) = _
        rw [show k + (z + 1) = k + 1 + z by omega]
      rw [this]
      exact hb'
theorem lnx_map {i : Nat} : lnx (tf l) l.length i = (List.range (eLn l i - sLn l i)).map (fun z => tf l (sLn l i + z)) := rfl
theorem lm_emit {j : Nat} {x2 : Int32} (hd : 3 ≤ d) (hF : Fix H) (h : SL g x l) (hx : x ≠ nI 26) (hj : j ≤ nLn l) :
    ∀ (m i : Nat) (b : Bool) (O : Tx) (g1 : Nat → Nat → Int32) (u w : AV), i + m = j → O26 g g1 → MB g1 b O → (O ++ em b (sub (LN l) i j)).length ≤ 99 →
    (∀ g', O26 g g' → MB g' (b || decide (i < j)) (O ++ em b (sub (LN l) i j)) → Q none (wi H g')) →
    wp d sc_Model_emit 3 [vR 58, vI x, vI x2, vI (nI j), vI (nI i), u, w] [] (wi H g1) Q := by
  have hle := h.le
  have hn := nLn_le l
  intro m
  induction m with
  | zero =>
    intro i b O g1 u w hi ho hb hl K
    have e : i = j := by omega
    subst e
    rw [sub_0] at K
    have z : nI i ≤ nI i := nI_le (Nat.le_refl _) (by omega)
    refine f_Model_emit_3 hF (fun q => absurd z q) (fun _ => K g1 ho ?_) (fun q => absurd z q) (fun q => absurd z q)
    simpa [em] using hb
  | succ m ih =>
    intro i b O g1 u w hi ho hb hl K
    have hil : i < nLn l := by omega
    obtain ⟨e1, e2, -⟩ := eLn_spec hil
    have z : ¬ nI j ≤ nI i := nI_ge (by omega) (by omega)
    have hsub : sub (LN l) i j = lnx (tf l) l.length i :: sub (LN l) (i + 1) j := sub_c (by omega) (lnx_LN hil)
    rw [hsub] at hl K
    simp only [em, List.length_append] at hl
    have hll : (lnx (tf l) l.length i).length = eLn l i - sLn l i := lnx_len _ _ _
    rw [hll] at hl
    obtain ⟨b1, b2, b3⟩ := hb
    have go : ∀ (O1 : Tx) (g2 : Nat → Nat → Int32), O1 = O ++ (if b = true then [10] else []) → O26 g g2 → MB g2 true O1 → cwp d 122 [vR 58, vI x, vI (nI i)] (wi H g2) (fun r1 H1 => wp d sc_Model_emit 55 [vR 58, vI x, vI x2, vI (nI j), vI (nI i), u, w] (r1.toList ++ []) H1 Q) := by
      intro O1 g2 hO1 ho2 hb2
      have h2 := h.o26 ho2 hx
      have hO1l : O1.length = O.length + (if b = true then [(10 : Int32)] else []).length := by rw [hO1, List.length_append]
      refine c_stop hd hF h2 hil ?_
      refine f_Model_emit_55 hF (c_start (by omega) hF h2 hil ?_)
      refine f_Model_emit_64 hF ?_
      refine lm_emitC hF h hx hil (eLn l i - sLn l i) (sLn l i) O1 g2 (by omega) (Nat.le_refl _) ho2 hb2 (by omega) (fun g3 ho3 hb3 => ?_)
      rw [← lnx_map, hO1, List.append_assoc] at hb3
      refine ih (i + 1) true _ g3 _ _ (by omega) ho3 hb3 ?_ (fun g4 ho4 hb4 => K g4 ho4 ?_)
      · simp only [List.length_append]
        rw [hll]
        omega
      · have e3 : (b || decide (i < j)) = true := by rw [decide_eq_true (show i < j by omega)]; simp
        rw [e3]
        rw [Bool.true_or] at hb4
        rw [show O ++ em b (lnx (tf l) l.length i :: sub (LN l) (i + 1) j) = O ++ ((if b = true then [10] else []) ++ lnx (tf l) l.length i) ++ em true (sub (LN l) (i + 1) j) by simp only [em, List.append_assoc]]
        exact hb4
    cases b with
    | true =>
      rw [if_pos rfl] at b1
      have e10 : (1040 : Int32) + g1 60 26 = nI (1040 + O.length) := by rw [b1]; exact nI_add 1040 O.length
      have hl2 : O.length + 1 ≤ 99 := by simp at hl; omega
      refine f_Model_emit_3 hF (fun _ _ => by rw [e10]; exact vp_in_nI (by omega) (by decide)) (fun q => absurd q z) (fun _ q => absurd q (by rw [b1]; exact nI_pos (by omega))) (fun _ _ => ?_)
      rw [e10, nI_clamp (by omega), b1, nI_1]
      refine go (O ++ [10]) _ rfl ((ho.trans (O26.t59 (by omega))).trans O26.t60) ⟨?_, fun q => (by cases q), fun k hk => ?_⟩
      · rw [if_pos rfl, u2_self, len_app]
      · rw [len_app] at hk
        rw [u2_ne (Or.inl (by decide))]
        by_cases e : k = O.length
        · subst e; rw [u2_self, tf_app2]
        · rw [u2_ne (Or.inr (by omega)), tf_app1 (by omega)]; exact b3 k (by omega)
    | false =>
      rw [if_neg (by decide)] at b1
      have hO := b2 rfl
      subst hO
      refine f_Model_emit_3 hF (fun _ q => absurd (by rw [b1]; decide) q) (fun q => absurd q z) (fun _ _ => ?_) (fun _ q => absurd (by rw [b1]; decide) q)
      rw [b1]
      refine go [] _ rfl (ho.trans O26.t60) ⟨?_, fun q => (by cases q), fun k hk => (by simp at hk)⟩
      rw [if_pos rfl, u2_self]
      rfl
theorem c_emit {i j : Nat} {b : Bool} {O : Tx} (hd : 4 ≤ d) (hF : Fix H) (h : SL g x l) (hx : x ≠ nI 26) (hij : i ≤ j) (hj : j ≤ nLn l) (hb : MB g b O) (hl : (O ++ em b (sub (LN l) i j)).length ≤ 99)
    (K : ∀ g', O26 g g' → MB g' (b || decide (i < j)) (O ++ em b (sub (LN l) i j)) → Q none (wi H g')) : cwp d 139 [vR 58, vI x, vI (nI i), vI (nI j)] (wi H g) Q := by
  refine e_Model_emit (by omega) (hF.c 58 31 rfl) (f_Model_emit_0 hF ?_)
  exact lm_emit (by omega) hF h hx hj (j - i) i b O g _ _ (by omega) O26.rf hb hl K
end MODK
