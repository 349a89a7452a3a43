/-! the class: the screen -/
/-- handles of the text constants -/
def KT (H : AH) : Prop := ∀ j, j < 17 → kd H (2 + j) = (5, j)
def S8 (g : Nat → Nat → Int32) (T : Tx) : Prop := g 56 1 = nI (min 200 T.length) ∧ (∀ j, j < min 200 T.length → g 57 j = tf T j) ∧ okT T
def F8 (g g' : Nat → Nat → Int32) : Prop := (∀ a, a ≠ 56 → a ≠ 57 → g' a = g a) ∧ ∀ j, j ≠ 1 → g' 56 j = g 56 j
theorem F8.rf {g : Nat → Nat → Int32} : F8 g g := ⟨fun _ _ _ => rfl, fun _ _ => rfl⟩
theorem F8.trans {g g' g'' : Nat → Nat → Int32} (h : F8 g g') (h2 : F8 g' g'') : F8 g g'' := ⟨fun a q1 q2 => by rw [h2.1 a q1 q2, h.1 a q1 q2], fun j hj => by rw [h2.2 j hj, h.2 j hj]⟩
theorem okT_append {A B : Tx} (ha : okT A) (hb : okT B) : okT (A ++ B) := fun j hj => by
  rw [List.length_append] at hj
  rcases Nat.lt_or_ge j A.length with q | q
  · rw [tf_l q]; exact ha j q
  · unfold tf
    rw [List.getD_eq_getElem?_getD, List.getElem?_append_right q]
    have := hb (j - A.length) (by omega)
    unfold tf at this
    rw [List.getD_eq_getElem?_getD] at this
    exact this
theorem S8.cut {g : Nat → Nat → Int32} {U V W : Tx} (h : S8 g (U ++ V)) (hl : 200 ≤ U.length) (hw : okT (U ++ W)) : S8 g (U ++ W) := by
  have e1 : min 200 (U ++ V).length = 200 := by rw [List.length_append]; omega
  have e2 : min 200 (U ++ W).length = 200 := by rw [List.length_append]; omega
  obtain ⟨h1, h2, -⟩ := h
  rw [e1] at h1 h2
  refine ⟨by rw [e2]; exact h1, fun j hj => ?_, hw⟩
  rw [e2] at hj
  rw [h2 j hj, tf_l (by omega), tf_l (by omega)]
theorem okT_1 {x : Int32} (h : okc x) : okT [x] := fun j hj => by
  have : j = 0 := by simp at hj; exact hj
  subst this
  exact h
section SCRN
variable {d : Nat} {Q : Option AV → AH → Prop} {H : AH} {g g' : Nat → Nat → Int32} {x c : Int32} {w : Ln} {T : Tx}
theorem S8.put (h : S8 g T) (hx : okc x) (hl : ¬ 200 ≤ T.length) : S8 (sm_u2 (sm_u2 g 57 (g 56 1).toNatClampNeg x) 56 1 (g 56 1 + 1)) (T ++ [x]) ∧ F8 g (sm_u2 (sm_u2 g 57 (g 56 1).toNatClampNeg x) 56 1 (g 56 1 + 1)) := by
  obtain ⟨h1, h2, h3⟩ := h
  have e1 : min 200 T.length = T.length := by omega
  have e2 : min 200 (T ++ [x]).length = T.length + 1 := by rw [List.length_append]; show min 200 (T.length + 1) = _; omega
  rw [e1] at h1 h2
  refine ⟨⟨by rw [u2_self, h1, nI_1, e2], fun j hj => ?_, okT_append h3 (okT_1 hx)⟩, fun a q1 q2 => by rw [u2_na q1, u2_na q2], fun j hj => by rw [u2_ne (Or.inr hj), u2_ne (Or.inl (by decide))]⟩
  rw [e2] at hj
  rw [u2_ne (Or.inl (by decide)), h1, nI_clamp (by omega)]
  by_cases ej : j = T.length
  · subst ej
    rw [u2_self, tf_e]
  · rw [u2_ne (Or.inr ej), h2 j (by omega), tf_l (by omega)]
theorem S8.e200 (h : S8 g T) : (200 : Int32) ≤ g 56 1 ↔ 200 ≤ T.length := by rw [h.1, show (200 : Int32) = nI 200 from rfl, nI_leI (by decide) (by omega)]; omega
theorem x_wc (hd : 1 ≤ d) (hF : Fix H) (h : S8 g T) (hx : okc x) (k : ∀ g', F8 g g' → S8 g' (T ++ [x]) → Q none (wi H g')) : cwp d 57 [vR 56, vI x] (wi H g) Q := by
  refine e_Screen_writeCharacter hd (hF.c 56 26 rfl) (f_Screen_writeCharacter_0 hF (fun q => ?_) (fun q => ?_) (fun q => ?_))
  · rw [h.e200] at q
    rw [h.1]
    exact vp_in_nI (by omega) (by decide)
  · rw [h.e200] at q
    refine k g F8.rf ?_
    have := S8.cut (U := T) (V := []) (W := [x]) (by rw [List.append_nil]; exact h) q (okT_append h.2.2 (okT_1 hx))
    exact this
  · rw [h.e200] at q
    rw [nar_ok hx]
    obtain ⟨p1, p2⟩ := h.put hx q
    exact k _ p2 p1
theorem TXT_ok : ∀ j, j < 17 → ∀ i, i < (TXT j).length → okc (tf (TXT j) i) := by
  have h : ∀ j : Fin 17, ∀ i : Fin 5, i.val < (TXT j.val).length → (0 ≤ tf (TXT j.val) i.val ∧ tf (TXT j.val) i.val < 128) := by decide +kernel
  have h5 : ∀ j : Fin 17, (TXT j.val).length ≤ 5 := by decide +kernel
  intro j hj i hi
  have h2 := h5 ⟨j, hj⟩
  have h2 : (TXT j).length ≤ 5 := h2
  obtain ⟨a, b⟩ := h ⟨j, hj⟩ ⟨i, by omega⟩ hi
  have a : 0 ≤ tf (TXT j) i := a
  have b : tf (TXT j) i < 128 := b
  obtain ⟨n, hn, e⟩ := nI_of (Int32.not_lt.mpr a)
  rw [e, show (128 : Int32) = nI 128 from rfl, nI_ltI hn (by decide)] at b
  exact ⟨n, by omega, e⟩
theorem x_write {j : Nat} (hd : 1 ≤ d) (hF : Fix H) (hK : KT H) (hj : j < 17) (h : S8 g T) (k : ∀ g', F8 g g' → S8 g' (T ++ TXT j) → Q none (wi H g')) : cwp d 56 [vR 56, vR (2 + j)] (wi H g) Q := by
  have hk := hK j hj
  have h5 : (TXT j).length ≤ 5 := by
    have h5 : ∀ j : Fin 17, (TXT j.val).length ≤ 5 := by decide +kernel
    exact h5 ⟨j, hj⟩
  have ho := TXT_ok j hj
  refine e_Screen_write hd (hF.c 56 26 rfl) (f_Screen_write_0 hF ?_)
  have eL : (Int32.ofNat (TXT (kd H (2 + j)).2).length) = nI (TXT j).length := by rw [hk]; rfl
  have loop : ∀ (m q : Nat) (g1 : Nat → Nat → Int32) (U : Tx), q + m = (TXT j).length → F8 g g1 → S8 g1 U → U ++ (TXT j).drop q = T ++ TXT j → wp (d - 1) sc_Screen_write 2 [vR 56, vR (2 + j), vI (nI q)] [] (wi H g1) Q := by
    intro m
    induction m with
    | zero =>
      intro q g1 U hq hf hs hU
      rw [List.drop_eq_nil_of_le (by omega), List.append_nil] at hU
      have z : (Int32.ofNat (TXT (kd H (2 + j)).2).length) ≤ nI q := by rw [eL]; exact nI_le (by omega) (by omega)
      exact f_Screen_write_2 hF (by rw [hk]) (fun w => absurd z w) (fun w => absurd z w) (fun _ => k g1 hf (by rw [← hU]; exact hs)) (fun w => absurd z w) (fun w => absurd z w)
    | succ m ih =>
      intro q g1 U hq hf hs hU
      have z : ¬ (Int32.ofNat (TXT (kd H (2 + j)).2).length) ≤ nI q := by rw [eL]; exact nI_ge (by omega) (by omega)
      have oq := ho q (by omega)
      have ec : (TXT (kd H (2 + j)).2).getD (nI q).toNatClampNeg 0 = tf (TXT j) q := by rw [hk, nI_clamp (by omega)]; rfl
      refine f_Screen_write_2 hF (by rw [hk]) (fun _ _ => by rw [hk]; exact vp_in_nI (by show q < (TXT j).length; omega) (by show (TXT j).length < _; omega)) (fun _ w => by rw [hs.e200] at w; rw [hs.1]; exact vp_in_nI (by omega) (by decide)) (fun w => absurd w z) (fun _ w => ?_) (fun _ w => ?_)
      · rw [hs.e200] at w
        refine k g1 hf ?_
        rw [← hU]
        refine S8.cut (V := []) (by rw [List.append_nil]; exact hs) w ?_
        rw [hU]
        have hT : okT T := by
          intro i hi
          have hlen : T.length ≤ U.length := by
            have := congrArg List.length hU
            simp only [List.length_append, List.length_drop] at this
            omega
          have := hs.2.2 i (by omega)
          have e1 : tf (U ++ (TXT j).drop q) i = tf U i := tf_l (by omega)
          rw [hU, tf_l hi] at e1
          rw [e1]
          exact this
        exact okT_append hT ho
      · rw [hs.e200] at w
        rw [ec, nar_ok oq, nI_1]
        obtain ⟨p1, p2⟩ := hs.put oq w
        refine ih (q + 1) _ _ (by omega) (hf.trans p2) p1 ?_
        rw [← hU, List.append_assoc]
        congr 1
        have hg : (TXT j)[q]? = some (tf (TXT j) q) := by
          unfold tf
          rw [List.getD_eq_getElem?_getD, List.getElem?_eq_getElem (by omega)]
          rfl
        rw [drop_q hg]
        rfl
  exact loop (TXT j).length 0 g T (by omega) F8.rf h rfl
end SCRN
