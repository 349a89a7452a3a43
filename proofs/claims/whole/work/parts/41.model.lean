theorem nLn_le (l : Tx) : nLn l ≤ l.length + 1 := by
  unfold nLn
  have := cnt_le (tf l) l.length
  omega
theorem sLn_le {l : Tx} {i : Nat} (h : i < nLn l) : sLn l i ≤ l.length := (ls_spec (f := tf l) (n := l.length) (i := i) (by unfold nLn at h; omega)).1
/-! the reference: texts -/
theorem nI_lit (n : Nat) : (OfNat.ofNat n : Int32) = nI n := rfl
theorem nI_sub {a b : Nat} (h : b ≤ a) : nI a - nI b = nI (a - b) := by
  have e : nI a = nI (a - b) + nI b := by rw [nI_add, Nat.sub_add_cancel h]
  rw [e]
  exact Int32.add_sub_cancel _ _
theorem nI_mul (a b : Nat) : nI a * nI b = nI (a * b) := (Int32.ofNat_mul a b).symm
theorem nI_40 (s k : Nat) : (40 : Int32) * nI s + nI k = nI (40 * s + k) := by
  rw [show (40 : Int32) = nI 40 from rfl, nI_mul, nI_add]
/-- a text of the reference: its slot, or -1 -/
def SL (g : Nat → Nat → Int32) (x : Int32) (l : Tx) : Prop :=
  (x = -1 ∧ l = []) ∨ ∃ s, s ≤ 26 ∧ x = nI s ∧ g 60 s = nI l.length ∧ l.length ≤ 40 ∧ ∀ j, j < l.length → g 59 (40 * s + j) = tf l j
theorem SL.le {g : Nat → Nat → Int32} {x : Int32} {l : Tx} (h : SL g x l) : l.length ≤ 40 := by
  rcases h with ⟨-, rfl⟩ | ⟨s, -, -, -, h, -⟩
  · exact Nat.zero_le _
  · exact h
theorem SL.at {g : Nat → Nat → Int32} {x : Int32} {l : Tx} (h : SL g x l) {j : Nat} (hj : j < l.length) : vp_in ((40 : Int32) * x + nI j) 1140 ∧ g 59 ((40 : Int32) * x + nI j).toNatClampNeg = tf l j := by
  rcases h with ⟨-, rfl⟩ | ⟨s, h1, rfl, h2, h3, h4⟩
  · simp at hj
  · rw [nI_40]
    exact ⟨vp_in_nI (by omega) (by decide), by rw [nI_clamp (by omega)]; exact h4 j hj⟩
section MODA
variable {d : Nat} {Q : Option AV → AH → Prop} {H : AH} {g : Nat → Nat → Int32} {x y : Int32} {l l2 : Tx}
theorem c_many (hd : 1 ≤ d) (hF : Fix H) (h : SL g x l) (k : Q (some (vI (nI l.length))) (wi H g)) : cwp d 119 [vR 58, vI x] (wi H g) Q := by
  refine e_Model_many hd (hF.c 58 31 rfl) ?_
  rcases h with ⟨rfl, rfl⟩ | ⟨s, h1, rfl, h2, h3, h4⟩
  · exact f_Model_many_0 hF (fun h => absurd h (by decide)) (fun h => absurd h (by decide)) (fun _ => k)
  · refine f_Model_many_0 hF (fun _ => vp_in_nI (by omega) (by decide)) (fun _ => ?_) (fun h => absurd (nI_pos' (by omega)) h)
    rw [nI_clamp (by omega), h2]
    exact k
theorem l_lines (hd : 1 ≤ d) (hF : Fix H) (h : SL g x l) (k : Q (some (vI (nI (nLn l)))) (wi H g)) : ∀ (m i : Nat), i + m = l.length → wp d sc_Model_lines 4 [vR 58, vI x, vI (nI (cnt (tf l) i + 1)), vI (nI i)] [] (wi H g) Q := by
  have hle := h.le
  intro m
  induction m with
  | zero =>
    intro i hi
    refine f_Model_lines_4 hF (c_many hd hF h ?_)
    refine f_Model_lines_10 hF (fun q => absurd (nI_le (by omega) (by omega)) q) (fun _ => ?_) (fun q => absurd (nI_le (by omega) (by omega)) q) (fun q => absurd (nI_le (by omega) (by omega)) q)
    rw [show i = l.length by omega]
    exact k
  | succ m ih =>
    intro i hi
    have hlt : i < l.length := by omega
    have ha := h.at hlt
    refine f_Model_lines_4 hF (c_many hd hF h ?_)
    refine f_Model_lines_10 hF (fun _ => ha.1) (fun q => absurd q (nI_ge hlt (by omega))) (fun _ q => ?_) (fun _ q => ?_)
    · rw [ha.2] at q
      rw [nI_1, ← cnt_sn q]
      exact ih (i + 1) (by omega)
    · rw [ha.2] at q
      rw [nI_1, nI_1, ← cnt_s10 q]
      exact ih (i + 1) (by omega)
theorem c_lines (hd : 2 ≤ d) (hF : Fix H) (h : SL g x l) (k : Q (some (vI (nI (nLn l)))) (wi H g)) : cwp d 120 [vR 58, vI x] (wi H g) Q := by
  refine e_Model_lines (by omega) (hF.c 58 31 rfl) (f_Model_lines_0 hF ?_)
  exact l_lines (by omega) hF h k l.length 0 (by omega)
theorem l_start {i : Nat} (hd : 1 ≤ d) (hF : Fix H) (h : SL g x l) (hi : i < nLn l) (k : Q (some (vI (nI (sLn l i)))) (wi H g)) : ∀ (m j : Nat), j + m = l.length → (∀ q, q < j → cnt (tf l) q < i) → cnt (tf l) j ≤ i → wp d sc_Model_start 5 [vR 58, vI x, vI (nI i), vI (nI (cnt (tf l) j)), vI (nI j)] [] (wi H g) Q := by
  have hle := h.le
  have hn := nLn_le l
  have hc : cnt (tf l) l.length + 1 = nLn l := rfl
  intro m
  induction m with
  | zero =>
    intro j hj h1 h2
    have hjl : j = l.length := by omega
    subst hjl
    have e : sLn l i = l.length := ls_uniq (Nat.le_refl _) (by omega) h1
    refine f_Model_start_5 hF (c_many hd hF h ?_)
    refine f_Model_start_12 hF (fun q => absurd (nI_le (Nat.le_refl _) (by omega)) q) (fun _ => ?_) (fun q => absurd (nI_le (Nat.le_refl _) (by omega)) q) (fun q => absurd (nI_le (Nat.le_refl _) (by omega)) q) (fun q => absurd (nI_le (Nat.le_refl _) (by omega)) q)
    refine c_many hd hF h ?_
    refine f_Model_start_59 hF ?_
    rw [← e]
    exact k
  | succ m ih =>
    intro j hj h1 h2
    have hlt : j < l.length := by omega
    have ha := h.at hlt
    refine f_Model_start_5 hF (c_many hd hF h ?_)
    refine f_Model_start_12 hF (fun _ _ => ha.1) (fun q => absurd q (nI_ge hlt (by omega))) (fun _ e q => ?_) (fun _ e q => ?_) (fun _ e => ?_)
    · rw [ha.2] at q
      have hne : ¬ cnt (tf l) j = i := fun z => e (by rw [z])
      rw [nI_1, ← cnt_sn q]
      refine ih (j + 1) (by omega) (fun z hz => ?_) (by rw [cnt_sn q]; exact h2)
      by_cases hzj : z = j
      · subst hzj; omega
      · exact h1 z (by omega)
    · rw [ha.2] at q
      have hne : ¬ cnt (tf l) j = i := fun z => e (by rw [z])
      rw [nI_1, nI_1, ← cnt_s10 q]
      refine ih (j + 1) (by omega) (fun z hz => ?_) (by rw [cnt_s10 q]; omega)
      by_cases hzj : z = j
      · subst hzj; omega
      · exact h1 z (by omega)
    · have hcl := cnt_le (tf l) j
      have he : cnt (tf l) j = i := (nI_eq (by omega) (by omega)).mp e
      have : sLn l i = j := ls_uniq (by omega) he h1
      rw [← this]
      exact k
theorem c_start {i : Nat} (hd : 2 ≤ d) (hF : Fix H) (h : SL g x l) (hi : i < nLn l) (k : Q (some (vI (nI (sLn l i)))) (wi H g)) : cwp d 121 [vR 58, vI x, vI (nI i)] (wi H g) Q := by
  refine e_Model_start (by omega) (hF.c 58 31 rfl) (f_Model_start_0 hF ?_)
  exact l_start (by omega) hF h hi k l.length 0 (by omega) (fun q hq => by omega) (Nat.zero_le _)
theorem eLn_spec {i : Nat} (hi : i < nLn l) : sLn l i ≤ eLn l i ∧ eLn l i ≤ l.length ∧ (∀ k, sLn l i ≤ k → k < eLn l i → ¬ tf l k = 10) ∧ (i < cnt (tf l) l.length → eLn l i < l.length ∧ tf l (eLn l i) = 10 ∧ sLn l (i + 1) = eLn l i + 1) ∧ (i = cnt (tf l) l.length → eLn l i = l.length) :=
  le_spec (f := tf l) (n := l.length) (i := i) (by unfold nLn at hi; omega)
theorem l_stop {i : Nat} (hd : 1 ≤ d) (hF : Fix H) (h : SL g x l) (hi : i < nLn l) (k : Q (some (vI (nI (eLn l i)))) (wi H g)) : ∀ (m j : Nat), j + m = eLn l i → sLn l i ≤ j → wp d sc_Model_stop 7 [vR 58, vI x, vI (nI i), vI (nI j)] [] (wi H g) Q := by
  have hle := h.le
  obtain ⟨e1, e2, e3, e4, e5⟩ := eLn_spec hi
  have hc : cnt (tf l) l.length + 1 = nLn l := rfl
  intro m
  induction m with
  | zero =>
    intro j hj h1
    have hje : j = eLn l i := by omega
    subst hje
    refine f_Model_stop_7 hF (c_many hd hF h ?_)
    by_cases hlt : eLn l i < l.length
    · have ha := h.at hlt
      have h10 : tf l (eLn l i) = 10 := by
        rcases Nat.lt_or_ge i (cnt (tf l) l.length) with q | q
        · exact (e4 q).2.1
        · have := e5 (by omega); omega
      exact f_Model_stop_13 hF (fun _ => ha.1) (fun q => absurd q (nI_ge hlt (by omega))) (fun _ _ => k) (fun _ q => absurd (by rw [ha.2]; exact h10) q)
    · exact f_Model_stop_13 hF (fun q => absurd (nI_le (by omega) (by omega)) q) (fun _ => k) (fun q => absurd (nI_le (by omega) (by omega)) q) (fun q => absurd (nI_le (by omega) (by omega)) q)
  | succ m ih =>
    intro j hj h1
    have hlt : j < l.length := by omega
    have ha := h.at hlt
    refine f_Model_stop_7 hF (c_many hd hF h ?_)
    refine f_Model_stop_13 hF (fun _ => ha.1) (fun q => absurd q (nI_ge hlt (by omega))) (fun _ q => ?_) (fun _ q => ?_)
    · rw [ha.2] at q
      exact absurd q (e3 j h1 (by omega))
    · rw [nI_1]
      exact ih (j + 1) (by omega) (by omega)
theorem c_stop {i : Nat} (hd : 3 ≤ d) (hF : Fix H) (h : SL g x l) (hi : i < nLn l) (k : Q (some (vI (nI (eLn l i)))) (wi H g)) : cwp d 122 [vR 58, vI x, vI (nI i)] (wi H g) Q := by
  refine e_Model_stop (by omega) (hF.c 58 31 rfl) (f_Model_stop_0 hF (c_start (by omega) hF h hi ?_))
  refine f_Model_stop_6 hF ?_
  exact l_stop (by omega) hF h hi k (eLn l i - sLn l i) (sLn l i) (by have := (eLn_spec hi).1; omega) (Nat.le_refl _)
def bI (b : Prop) : Int32 → Prop := fun r => (b ∧ r = 1) ∨ (¬ b ∧ r = 0)
theorem l_equal {i j : Nat} (hF : Fix H) (h : SL g x l) (h2 : SL g y l2) (hi : i < nLn l) (hj : j < nLn l2) (hl : eLn l i - sLn l i = eLn l2 j - sLn l2 j) (k : ∀ r, bI (lnx (tf l) l.length i = lnx (tf l2) l2.length j) r → Q (some (vI r)) (wi H g)) :
    ∀ (m q : Nat), q + m = eLn l i - sLn l i → (∀ z, z < q → tf l (sLn l i + z) = tf l2 (sLn l2 j + z)) → wp d sc_Model_equal 48 [vR 58, vI x, vI (nI i), vI y, vI (nI j), vI (nI (sLn l i)), vI (nI (sLn l2 j)), vI (nI (eLn l i - sLn l i)), vI (nI q)] [] (wi H g) Q := by
  have hle := h.le
  have hle2 := h2.le
  obtain ⟨e1, e2, -⟩ := eLn_spec hi
  obtain ⟨u1, u2, -⟩ := eLn_spec hj
  intro m
  induction m with
  | zero =>
    intro q hq hz
    refine f_Model_equal_48 hF (fun z => absurd (nI_le (by omega) (by omega)) z) (fun z => absurd (nI_le (by omega) (by omega)) z) (fun _ => k _ (Or.inl ⟨?_, rfl⟩)) (fun z => absurd (nI_le (by omega) (by omega)) z) (fun z => absurd (nI_le (by omega) (by omega)) z)
    exact lnx_eq.mpr ⟨hl, fun z hz2 => hz z (by unfold eLn sLn at hq; omega)⟩
  | succ m ih =>
    intro q hq hz
    have ha := h.at (j := sLn l i + q) (by omega)
    have hb := h2.at (j := sLn l2 j + q) (by omega)
    rw [← nI_add, ← Int32.add_assoc] at ha hb
    refine f_Model_equal_48 hF (fun _ => ha.1) (fun _ => hb.1) (fun z => absurd z (nI_ge (by omega) (by omega))) (fun _ z => ?_) (fun _ z => k _ (Or.inr ⟨fun e => z ?_, rfl⟩))
    · rw [ha.2, hb.2] at z
      rw [nI_1]
      refine ih (q + 1) (by omega) (fun w hw => ?_)
      by_cases hwq : w = q
      · subst hwq; exact z
      · exact hz w (by omega)
    · rw [ha.2, hb.2]
      exact (lnx_eq.mp e).2 q (by unfold eLn sLn at hq; omega)
theorem c_equal {i j : Nat} (hd : 4 ≤ d) (hF : Fix H) (h : SL g x l) (h2 : SL g y l2) (hi : i < nLn l) (hj : j < nLn l2) (k : ∀ r, bI (lnx (tf l) l.length i = lnx (tf l2) l2.length j) r → Q (some (vI r)) (wi H g)) : cwp d 123 [vR 58, vI x, vI (nI i), vI y, vI (nI j)] (wi H g) Q := by
  have hle := h.le
  have hle2 := h2.le
  obtain ⟨e1, e2, -⟩ := eLn_spec hi
  obtain ⟨u1, u2, -⟩ := eLn_spec hj
  refine e_Model_equal (by omega) (hF.c 58 31 rfl) (f_Model_equal_0 hF (c_start (by omega) hF h hi ?_))
  refine f_Model_equal_6 hF (c_start (by omega) hF h2 hj ?_)
  refine f_Model_equal_15 hF (c_stop (by omega) hF h hi ?_)
  refine f_Model_equal_23 hF (c_stop (by omega) hF h2 hj ?_)
  refine f_Model_equal_35 hF (fun q => ?_) (fun q => k _ (Or.inr ⟨fun e => q ?_, rfl⟩))
  · rw [nI_sub u1, nI_sub e1] at q
    rw [nI_sub e1]
    have hl := ((nI_eq (by omega) (by omega)).mp q).symm
    exact l_equal hF h h2 hi hj hl k (eLn l i - sLn l i) 0 (by omega) (fun z hz => by omega)
  · have := (lnx_eq.mp e).1
    rw [nI_sub u1, nI_sub e1]
    unfold eLn sLn
    rw [this]
end MODA
