/-! the reference: steps; a text is copied, changed -/
/-- revision n - 1 of a page, if there is one -/
def pv (P : List (Bool × Tx)) (n : Nat) : Option (Bool × Tx) := if n - 1 = 0 then none else P[n - 1 - 1]?
def cu (P : List (Bool × Tx)) (n : Nat) : Bool × Tx := P.getD (n - 1) (true, [])
def stp (K : Nat) (P : List (Bool × Tx)) : Nat → Nat
  | 0 => 0
  | n + 1 => if dlB K (n + 1) (cu P (n + 1)) (pv P (n + 1)) = true then stp K P n + 1 else 0
theorem stp_le (K : Nat) (P : List (Bool × Tx)) : ∀ n, stp K P n ≤ n := by
  intro n
  induction n with
  | zero => exact Nat.le_refl _
  | succ n ih => rw [stp]; split <;> omega
def ST (g : Nat → Nat → Int32) (s : Nat) (l : Tx) : Prop := g 60 s = nI l.length ∧ l.length ≤ 40 ∧ ∀ j, j < l.length → g 59 (40 * s + j) = tf l j
theorem ST.sl {g : Nat → Nat → Int32} {s : Nat} {l : Tx} (h : ST g s l) (hs : s ≤ 26) : SL g (nI s) l := Or.inr ⟨s, hs, rfl, h.1, h.2.1, h.2.2⟩
theorem SL.st {g : Nat → Nat → Int32} {s : Nat} {l : Tx} (h : SL g (nI s) l) (hs : s ≤ 26) : ST g s l := by
  rcases h with ⟨h1, -⟩ | ⟨s', h1, h2, h3, h4, h5⟩
  · have := nI_pos' (n := s) (by omega)
    rw [h1] at this
    exact absurd this (by decide)
  · have : s = s' := (nI_eq (by omega) (by omega)).mp h2
    subst this
    exact ⟨h3, h4, h5⟩
/-- only the text in slot t has changed -/
def Oth (g g' : Nat → Nat → Int32) (t : Nat) : Prop := (∀ a, a ≠ 59 → a ≠ 60 → g' a = g a) ∧ (∀ j, (j < 40 * t ∨ 40 * t + 40 ≤ j) → g' 59 j = g 59 j) ∧ ∀ s, s ≠ t → g' 60 s = g 60 s
theorem ST.oth {g g' : Nat → Nat → Int32} {s t : Nat} {l : Tx} (h : ST g s l) (ho : Oth g g' t) (hne : s ≠ t) : ST g' s l :=
  ⟨by rw [ho.2.2 s hne]; exact h.1, h.2.1, fun j hj => by have := h.2.1; rw [ho.2.1 _ (by omega)]; exact h.2.2 j hj⟩
theorem SL.oth {g g' : Nat → Nat → Int32} {x : Int32} {t : Nat} {l : Tx} (h : SL g x l) (ho : Oth g g' t) (hne : x ≠ nI t) : SL g' x l := by
  rcases h with h | ⟨s, h1, rfl, h3, h4, h5⟩
  · exact Or.inl h
  · exact (ST.oth (g := g) (s := s) ⟨h3, h4, h5⟩ ho (fun e => hne (by rw [e]))).sl h1
theorem Oth.trans {g g' g'' : Nat → Nat → Int32} {t : Nat} (h : Oth g g' t) (h2 : Oth g' g'' t) : Oth g g'' t :=
  ⟨fun a q1 q2 => by rw [h2.1 a q1 q2, h.1 a q1 q2], fun j hj => by rw [h2.2.1 j hj, h.2.1 j hj], fun s hs => by rw [h2.2.2 s hs, h.2.2 s hs]⟩
theorem Oth.t59 {g : Nat → Nat → Int32} {t j : Nat} {v : Int32} (h1 : 40 * t ≤ j) (h2 : j < 40 * t + 40) : Oth g (sm_u2 g 59 j v) t :=
  ⟨fun a q1 _ => u2_na q1, fun k hk => u2_ne (Or.inr (by omega)), fun s _ => u2_ne (Or.inl (by decide))⟩
theorem Oth.t60 {g : Nat → Nat → Int32} {t : Nat} {v : Int32} : Oth g (sm_u2 g 60 t v) t :=
  ⟨fun a _ q2 => u2_na q2, fun k _ => u2_ne (Or.inl (by decide)), fun s hs => u2_ne (Or.inr hs)⟩
theorem Oth.rf {g : Nat → Nat → Int32} {t : Nat} : Oth g g t := ⟨fun _ _ _ => rfl, fun _ _ => rfl, fun _ _ => rfl⟩
section MODG
variable {d : Nat} {Q : Option AV → AH → Prop} {H : AH} {g : Nat → Nat → Int32} {x y : Int32} {l l2 : Tx} {R : List Rv} {p v K n : Nat}
theorem lm_steps {x2 : Int32} (hd : 1 ≤ d) (hF : Fix H) (hK : 1 ≤ K ∧ K ≤ 5) (hg : g 58 5 = nI K) (h : RRv g R) (hp : p < 6) {T : Nat} (k : Q (some (vI (nI T))) (wi H g)) :
    ∀ (n s1 : Nat) (u w : AV), n ≤ (pg R p).length → s1 + stp K (pg R p) n = T → wp d sc_Model_stepsOf 5 [vR 58, vI (nI p), vI x2, vI (nI s1), vI (nI n), u, w] [] (wi H g) Q := by
  have h24 := h.1
  have hle := pg_le R p
  intro n
  induction n with
  | zero =>
    intro s1 u w _ hT
    refine f_Model_stepsOf_5 hF (fun _ => ?_) (fun q => absurd (by decide) q)
    rw [show s1 = T by simpa [stp] using hT]
    exact k
  | succ n ih =>
    intro s1 u w hn hT
    refine f_Model_stepsOf_5 hF (fun q => absurd q (nI_nle (by omega) (by omega))) (fun _ => c_find hd hF h hp (by omega) (fun r hr => ?_))
    refine f_Model_stepsOf_17 hF ?_
    rw [nI_sub1]
    refine c_find hd hF h hp (by omega) (fun r2 hr2 => ?_)
    rcases hr with ⟨i, e, rfl, h1, h2, h3⟩ | ⟨-, hr⟩
    · have hi : i < R.length := (List.getElem?_eq_some_iff.mp h1).1
      obtain ⟨a1, a2, a3, a4⟩ := h.2.2 i _ h1
      have hcu : cu (pg R p) (n + 1) = e := by unfold cu; rw [List.getD_eq_getElem?_getD, h3]; rfl
      have hbf : BF g r2 (pv (pg R p) (n + 1)) := hr2.bf h
      refine f_Model_stepsOf_28 hF (c_delta (c := e) hd hF hK hg (by omega) a2 (by omega) hbf ?_)
      rw [stp, hcu] at hT
      by_cases hdl : dlB K (n + 1) e (pv (pg R p) (n + 1)) = true
      · rw [if_pos hdl] at hT ⊢
        refine f_Model_stepsOf_40 hF (fun _ => ?_) (fun q => absurd q (by decide))
        rw [nI_1, show nI (n + 1) + (-1) = nI n from dn_s n]
        exact ih (s1 + 1) _ _ (by omega) (by omega)
      · rw [if_neg hdl] at hT ⊢
        refine f_Model_stepsOf_40 hF (fun q => absurd rfl q) (fun _ => ?_)
        rw [show s1 = T by omega]
        exact k
    · exfalso; omega
theorem c_stepsOf (hd : 2 ≤ d) (hF : Fix H) (hK : 1 ≤ K ∧ K ≤ 5) (hg : g 58 5 = nI K) (h : RRv g R) (hp : p < 6) (hn : n ≤ (pg R p).length) (k : Q (some (vI (nI (stp K (pg R p) n)))) (wi H g)) : cwp d 133 [vR 58, vI (nI p), vI (nI n)] (wi H g) Q := by
  refine e_Model_stepsOf (by omega) (hF.c 58 31 rfl) (f_Model_stepsOf_0 hF ?_)
  exact lm_steps (by omega) hF hK hg h hp k n 0 _ _ hn (Nat.zero_add _)
theorem lm_copy {t : Nat} (hF : Fix H) (h : SL g x l) (ht : t ≤ 25) (hne : x ≠ nI t) (k : ∀ g', Oth g g' t → ST g' t l → Q none (wi H g')) :
    ∀ (m i : Nat) (g1 : Nat → Nat → Int32), i + m = l.length → Oth g g1 t → g1 60 t = nI l.length → (∀ j, j < i → g1 59 (40 * t + j) = tf l j) → wp d sc_Model_copy 13 [vR 58, vI x, vI (nI t), vI (nI i)] [] (wi H g1) Q := by
  have hle := h.le
  have hc : (nI t).toNatClampNeg = t := nI_clamp (by omega)
  intro m
  induction m with
  | zero =>
    intro i g1 hi ho h60 h59
    have z : g1 60 (nI t).toNatClampNeg ≤ nI i := by rw [hc, h60]; exact nI_le (by omega) (by omega)
    exact f_Model_copy_13 hF (vp_in_nI (by omega) (by decide)) (fun q => absurd z q) (fun q => absurd z q) (fun _ => k g1 ho ⟨h60, hle, fun j hj => h59 j (by omega)⟩) (fun q => absurd z q)
  | succ m ih =>
    intro i g1 hi ho h60 h59
    have hil : i < l.length := by omega
    have h1 := h.oth ho hne
    have ha := h1.at hil
    have z : ¬ g1 60 (nI t).toNatClampNeg ≤ nI i := by rw [hc, h60]; exact nI_ge hil (by omega)
    refine f_Model_copy_13 hF (vp_in_nI (by omega) (by decide)) (fun _ => ha.1) (fun _ => by rw [nI_40]; exact vp_in_nI (by omega) (by decide)) (fun q => absurd q z) (fun _ => ?_)
    rw [ha.2, nI_40, nI_clamp (by omega), nI_1]
    refine ih (i + 1) _ (by omega) (ho.trans (Oth.t59 (by omega) (by omega))) ?_ (fun j hj => ?_)
    · rw [u2_ne (Or.inl (by decide))]; exact h60
    · by_cases e : j = i
      · subst e; rw [u2_self]
      · rw [u2_ne (Or.inr (by omega))]; exact h59 j (by omega)
theorem c_copy {t : Nat} (hd : 2 ≤ d) (hF : Fix H) (h : SL g x l) (ht : t ≤ 25) (hne : x ≠ nI t) (k : ∀ g', Oth g g' t → ST g' t l → Q none (wi H g')) : cwp d 134 [vR 58, vI x, vI (nI t)] (wi H g) Q := by
  have hc : (nI t).toNatClampNeg = t := nI_clamp (by omega)
  have hle := h.le
  refine e_Model_copy (by omega) (hF.c 58 31 rfl) (f_Model_copy_0 hF (c_many (by omega) hF h ?_))
  refine f_Model_copy_10 hF (vp_in_nI (by omega) (by decide)) ?_
  rw [hc]
  refine lm_copy hF h ht hne k l.length 0 _ (by omega) Oth.t60 u2_self (fun j hj => by omega)
/-- a character is put in at p -/
def ins (l : Tx) (q : Nat) (c : Int32) : Tx := l.take q ++ c :: l.drop q
theorem ins_len {q : Nat} {c : Int32} (h : q ≤ l.length) : (ins l q c).length = l.length + 1 := by
  unfold ins
  rw [List.length_append, List.length_take, List.length_cons, List.length_drop]
  omega
theorem ins_tf {q : Nat} {c : Int32} (h : q ≤ l.length) (j : Nat) : tf (ins l q c) j = if j < q then tf l j else if j = q then c else tf l (j - 1) := by
  unfold ins tf
  simp only [List.getD_eq_getElem?_getD]
  by_cases h1 : j < q
  · rw [if_pos h1, List.getElem?_append_left (by rw [List.length_take]; omega), List.getElem?_take, if_pos h1]
  · rw [if_neg h1, List.getElem?_append_right (by rw [List.length_take]; omega), List.length_take, show min q l.length = q by omega]
    by_cases h2 : j = q
    · subst h2; rw [if_pos rfl, Nat.sub_self]; rfl
    · rw [if_neg h2, show j - q = (j - q - 1) + 1 by omega, List.getElem?_cons_succ, List.getElem?_drop, show q + (j - q - 1) = j - 1 by omega]
theorem lm_insert {q : Nat} {c : Int32} (hF : Fix H) (hq : q ≤ l.length) (hl : l.length < 40) (k : ∀ g', Oth g g' 24 → ST g' 24 (ins l q c) → Q (some (vI 1)) (wi H g')) :
    ∀ (m : Nat) (g1 : Nat → Nat → Int32), q + m ≤ l.length → Oth g g1 24 → g1 60 24 = nI l.length → (∀ j, j < q + m → g1 59 (960 + j) = tf l j) → (∀ j, q + m < j → j ≤ l.length → g1 59 (960 + j) = tf l (j - 1)) →
    wp d sc_Model_insert 22 [vR 58, vI (nI q), vI c, vI (nI (q + m))] [] (wi H g1) Q := by
  have e9 : ∀ j : Nat, (960 : Int32) + nI j = nI (960 + j) := fun j => nI_add 960 j
  intro m
  induction m with
  | zero =>
    intro g1 _ ho h60 hlo hhi
    refine f_Model_insert_22 hF (fun _ => by rw [e9]; exact vp_in_nI (by omega) (by decide)) (fun z => absurd (nI_le (by omega) (by omega)) z) (fun z => absurd (nI_le (by omega) (by omega)) z) (fun _ => ?_) (fun z => absurd (nI_le (by omega) (by omega)) z)
    rw [e9, nI_clamp (by omega), h60, nI_1]
    refine k _ ((ho.trans (Oth.t59 (by omega) (by omega))).trans Oth.t60) ⟨?_, by rw [ins_len hq]; omega, fun j hj => ?_⟩
    · rw [u2_self, ins_len hq]
    · rw [ins_len hq] at hj
      rw [u2_ne (Or.inl (by decide)), ins_tf hq, show 40 * 24 + j = 960 + j by omega]
      by_cases h1 : j < q
      · rw [if_pos h1, u2_ne (Or.inr (by omega))]; exact hlo j (by omega)
      · rw [if_neg h1]
        by_cases h2 : j = q
        · subst h2; rw [if_pos rfl, u2_self]
        · rw [if_neg h2, u2_ne (Or.inr (by omega))]; exact hhi j (by omega) (by omega)
  | succ m ih =>
    intro g1 hm ho h60 hlo hhi
    have e8 : (960 : Int32) + nI (q + (m + 1)) - 1 = nI (960 + (q + m)) := by rw [e9, show 960 + (q + (m + 1)) = 960 + (q + m) + 1 by omega, nI_sub1]
    refine f_Model_insert_22 hF (fun z => absurd z (nI_ge (by omega) (by omega))) (fun _ => by rw [e8]; exact vp_in_nI (by omega) (by decide)) (fun _ => by rw [e9]; exact vp_in_nI (by omega) (by decide)) (fun z => absurd z (nI_ge (by omega) (by omega))) (fun _ => ?_)
    rw [e8, e9, nI_clamp (by omega), nI_clamp (by omega), show nI (q + (m + 1)) + (-1) = nI (q + m) from dn_s (q + m)]
    refine ih _ (by omega) (ho.trans (Oth.t59 (by omega) (by omega))) ?_ (fun j hj => ?_) (fun j h1 h2 => ?_)
    · rw [u2_ne (Or.inl (by decide))]; exact h60
    · rw [u2_ne (Or.inr (by omega))]; exact hlo j (by omega)
    · by_cases e : j = q + (m + 1)
      · subst e
        rw [u2_self, hlo (q + m) (by omega), show q + (m + 1) - 1 = q + m by omega]
      · rw [u2_ne (Or.inr (by omega))]; exact hhi j (by omega) h2
theorem c_insert {q : Nat} {c : Int32} (hd : 1 ≤ d) (hF : Fix H) (h : ST g 24 l) (hq : q ≤ l.length) (kn : 40 ≤ l.length → Q (some (vI 0)) (wi H g)) (k : l.length < 40 → ∀ g', Oth g g' 24 → ST g' 24 (ins l q c) → Q (some (vI 1)) (wi H g')) : cwp d 146 [vR 58, vI (nI q), vI c] (wi H g) Q := by
  obtain ⟨h1, h2, h3⟩ := h
  refine e_Model_insert hd (hF.c 58 31 rfl) (f_Model_insert_0 hF (fun z => ?_) (fun z => kn ?_))
  · rw [h1, show (40 : Int32) = nI 40 from rfl, nI_ltI (by omega) (by decide)] at z
    rw [h1, show l.length = q + (l.length - q) by omega]
    exact lm_insert hF hq z (k z) (l.length - q) g (by omega) Oth.rf h1 (fun j hj => by have := h3 j (by omega); exact this) (fun j q1 q2 => by omega)
  · rw [h1, show (40 : Int32) = nI 40 from rfl, nI_ltI (by omega) (by decide)] at z
    omega
end MODG
