/-! the class's invariant -/
/-- a revision: its object r, revision n of a page with revisions P -/
def RVc (H : AH) (g : Nat → Nat → Int32) (K r : Nat) (P : List (Bool × Tx)) (n : Nat) (e : Bool × Tx) : Prop :=
  (kd H r).1 = 25 ∧ 71 ≤ r ∧ r < nx H ∧ (gr H r 0 = 23 ∨ (71 ≤ gr H r 0 ∧ gr H r 0 + 2 < nx H)) ∧ TL H (gr H r 0) ∧ TX H g (gr H r 0) e.2 ∧ g r 1 = zB e.1 ∧ g r 2 = nI (szP K n e (pv P n)) ∧ g r 3 = nI (stp K P n)
def PGc (H : AH) (g : Nat → Nat → Int32) (K : Nat) (R : List Rv) : Prop :=
  R.length ≤ 24 ∧ g 19 8 = nI R.length ∧ (∀ r, r ∈ R → r.1 < 6 ∧ (r.2.1 = true → r.2.2 = [])) ∧ ∀ p, p < 6 → g (41 + 2 * p) 1 = nI (pg R p).length ∧ (gr H 26 p = 41 + 2 * p ∧ gr H (42 + 2 * p) 0 = 40) ∧ ∀ n e, 1 ≤ n → (pg R p)[n - 1]? = some e → RVc H g K (gr H (42 + 2 * p) n) (pg R p) n e
def CIr (H : AH) (g : Nat → Nat → Int32) : SG → Prop
  | (K, _, R, ct, wr, dw, cl, nb, pd, scr) => (1 ≤ K ∧ K ≤ 5) ∧ g 19 0 = nI K ∧ TX H g 23 [] ∧ (g 40 1 = 1 ∧ g 40 2 = 0 ∧ g 40 3 = 0) ∧ PGc H g K R ∧ (g 39 0 = wr ∧ g 39 1 = ct ∧ (ct = -1 ∨ ¬ ct < 0) ∧ g 39 2 = zB dw) ∧
    (dw = true → g 39 3 = zB cl ∧ g 39 4 = nI (if cl = true then nb + 1 else 1) ∧ nb < 2 ^ 20 ∧ g 19 10 = nI pd.1 ∧ pd.1 < 6 ∧ R.length < 24 ∧ (pd.2.1 = true → pd.2.2 = []) ∧ RVc H g K (gr H 19 9) (pg R pd.1 ++ [pd.2]) ((pg R pd.1).length + 1) pd.2) ∧
    (scr.length ≤ 200 ∧ okT scr ∧ g 56 1 = nI scr.length ∧ ∀ j, j < scr.length → g 57 j = tf scr j)
def CI (H : AH) (g : Nat → Nat → Int32) (σ : SG) : Prop := Fix H ∧ TX H g 20 σ.2.1 ∧ (∃ l36, TX H g 36 l36) ∧ CIr H g σ
/-- the cells that the invariant speaks of, but the draft's and the merger's -/
def KC (H : AH) (a : Nat) : Prop := a = 19 ∨ (23 ≤ a ∧ a ≤ 26) ∨ (39 ≤ a ∧ a ≤ 53) ∨ (56 ≤ a ∧ a ≤ 57) ∨ (71 ≤ a ∧ a < nx H)
section INV
variable {d : Nat} {Q : Option AV → AH → Prop} {H : AH} {g g' : Nat → Nat → Int32} {K r n : Nat} {P : List (Bool × Tx)} {e : Bool × Tx} {R : List Rv} {σ : SG}
theorem RVc.fr (h : RVc H g K r P n e) (hf : ∀ a, KC H a → a ≠ 39 → g' a = g a) : RVc H g' K r P n e := by
  obtain ⟨h1, h2, h3, h4, h5, h6, h7, h8, h9⟩ := h
  have er : g' r = g r := hf r (Or.inr (Or.inr (Or.inr (Or.inr ⟨h2, h3⟩)))) (by omega)
  have et : ∀ b, b ≤ 2 → g' (gr H r 0 + b) = g (gr H r 0 + b) := fun b hb => hf _ (by unfold KC; omega) (by omega)
  exact ⟨h1, h2, h3, h4, h5, h6.of h5 (et 0 (by decide)) (et 1 (by decide)) (et 2 (by decide)), by rw [er]; exact h7, by rw [er]; exact h8, by rw [er]; exact h9⟩
theorem PGc.fr (h : PGc H g K R) (hf : ∀ a, KC H a → a ≠ 39 → g' a = g a) : PGc H g' K R := by
  obtain ⟨h1, h2, h3, h4⟩ := h
  refine ⟨h1, by rw [hf 19 (Or.inl rfl) (by decide)]; exact h2, h3, fun p hp => ?_⟩
  obtain ⟨a1, a2, a3⟩ := h4 p hp
  exact ⟨by rw [hf _ (show KC H (41 + 2 * p) by unfold KC; omega) (by omega)]; exact a1, a2, fun n e hn he => (a3 n e hn he).fr hf⟩
theorem CIr.fr (hF : Fix H) (h : CIr H g σ) (hf : ∀ a, KC H a → g' a = g a) : CIr H g' σ := by
  obtain ⟨K, D, R, ct, wr, dw, cl, nb, pd, scr⟩ := σ
  obtain ⟨hK, gK, h23, h40, hP, hJ, hd, hs⟩ := h
  have e19 : g' 19 = g 19 := hf 19 (Or.inl rfl)
  have e39 : g' 39 = g 39 := hf 39 (by unfold KC; omega)
  have e40 : g' 40 = g 40 := hf 40 (by unfold KC; omega)
  have e56 : g' 56 = g 56 := hf 56 (by unfold KC; omega)
  have e57 : g' 57 = g 57 := hf 57 (by unfold KC; omega)
  refine ⟨hK, by rw [e19]; exact gK, h23.of hF.t23 (hf 23 (by unfold KC; omega)) (hf 24 (by unfold KC; omega)) (hf 25 (by unfold KC; omega)), by rw [e40]; exact h40, hP.fr (fun a ha _ => hf a ha), by rw [e39]; exact hJ, fun q => ?_, by rw [e56, e57]; exact hs⟩
  obtain ⟨a1, a2, a3, a4, a5, a6, a7, a8⟩ := hd q
  exact ⟨by rw [e39]; exact a1, by rw [e39]; exact a2, a3, by rw [e19]; exact a4, a5, a6, a7, a8.fr (fun a ha _ => hf a ha)⟩
theorem CI.draft {D' : Tx} (h : CI H g σ) (hX : TX H g' 20 D') (hf : TF H 20 g g') : CI H g' (σ.1, D', σ.2.2) := by
  obtain ⟨hF, h20, ⟨l36, h36⟩, hr⟩ := h
  have f : ∀ a, a ≠ 20 → a ≠ 21 → a ≠ 22 → g' a = g a := fun a a1 a2 a3 => hf a a1 (fun z => a2 (z.trans hF.t20.2.1)) (fun z => a3 (z.trans hF.t20.2.2))
  refine ⟨hF, hX, ⟨l36, h36.of hF.t36 (f 36 (by decide) (by decide) (by decide)) (f 37 (by decide) (by decide) (by decide)) (f 38 (by decide) (by decide) (by decide))⟩, ?_⟩
  have h2 := hr.fr hF (g' := g') (fun a ha => f a (by unfold KC at ha; omega) (by unfold KC at ha; omega) (by unfold KC at ha; omega))
  obtain ⟨K, D, R, ct, wr, dw, cl, nb, pd, scr⟩ := σ
  exact h2
theorem x_isPrinted {x : Int32} (hd : 1 ≤ d) (k : ∀ r, bI (prn x) r → Q (some (vI r)) H) : cwp d 110 [vI x] H Q := by
  refine e_P_isPrinted hd (t_P_isPrinted_0 (fun q => k _ (Or.inr ⟨fun z => absurd q (Int32.not_lt.mpr z.1), rfl⟩)) (fun q q2 => k _ (Or.inr ⟨fun z => absurd q2 (Int32.not_lt.mpr z.2), rfl⟩)) (fun q q2 => k _ (Or.inl ⟨⟨Int32.not_lt.mp q, Int32.not_lt.mp q2⟩, rfl⟩)))
theorem prn_ok {x : Int32} (h : prn x) : okc x := by
  have h0 : ¬ x < 0 := by
    intro q
    have h1 := Int32.lt_iff_toInt_lt.mp q
    have h2 := Int32.le_iff_toInt_le.mp h.1
    have e1 : (32 : Int32).toInt = 32 := rfl
    have e0 : (0 : Int32).toInt = 0 := rfl
    omega
  obtain ⟨n, hn, rfl⟩ := nI_of h0
  refine ⟨n, ?_, rfl⟩
  have := h.2
  rw [show (126 : Int32) = nI 126 from rfl, nI_leI hn (by decide)] at this
  omega
theorem x_type {x : Int32} (hd : 3 ≤ d) (h : CI H g σ) (k : ∀ g', CI H g' (sp_type σ x).2 → Q (some (vI (sp_type σ x).1)) (wi H g')) : cwp d 90 [vR 19, vI x] (wi H g) Q := by
  have hF := h.1
  have no : ¬ ((prn x ∨ x = 10) ∧ σ.2.1.length < 40) → Q (some (vI 0)) (wi H g) := fun z => by
    unfold sp_type at k
    rw [if_neg z] at k
    exact k g h
  have go : (prn x ∨ x = 10) → okc x → cwp (d - 1) 73 [vR 20, vI x] (wi H g) (fun r1 H1 => wp (d - 1) sc_P_type 21 [vR 19, vI x] (r1.toList ++ []) H1 Q) := fun hx ho =>
    x_append (by omega) hF.t20.1 h.2.1 ho (fun q => f_P_type_21 hF (fun _ => no (fun z => by have := z.2; omega)) (fun z => absurd rfl z)) (fun q g' hX hf => f_P_type_21 hF (fun z => absurd z (by decide)) (fun _ => by
      unfold sp_type at k
      rw [if_pos ⟨hx, q⟩] at k
      exact k g' (h.draft hX hf)))
  refine e_P_type (by omega) (hF.c 19 30 rfl) (f_P_type_0 hF (fun q => go (Or.inr q) (by rw [q]; exact ⟨10, by decide, rfl⟩)) (fun q => x_isPrinted (by omega) (fun r hr => ?_)))
  rcases hr with ⟨hr, rfl⟩ | ⟨hr, rfl⟩
  · exact f_P_type_10 hF (fun z => absurd z (by decide)) (fun _ => go (Or.inl hr) (prn_ok hr))
  · exact f_P_type_10 hF (fun _ => no (fun z => z.1.elim hr q)) (fun z => absurd rfl z)
theorem x_clear (hd : 3 ≤ d) (h : CI H g σ) (k : ∀ g', CI H g' (σ.1, [], σ.2.2) → Q none (wi H g')) : cwp d 93 [vR 19] (wi H g) Q :=
  e_P_clear (by omega) (h.1.c 19 30 rfl) (f_P_clear_0 h.1 (x_makeEmpty (by omega) h.1.t20.1 h.2.1 (fun g' hX hf => f_P_clear_7 h.1 (k g' (h.draft hX hf)))))
end INV
