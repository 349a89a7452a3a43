/-! the class: a revision is made -/
section PF
variable {d : Nat} {Q : Option AV → AH → Prop} {H : AH} {g g' : Nat → Nat → Int32} {K r n p : Nat} {P : List (Bool × Tx)} {e : Bool × Tx} {R : List Rv} {σ : SG}
theorem pg_sr {v : Nat} (hF : Fix H) (h : PGc H g K R) : PGc (sr H 19 9 v) g K R := by
  obtain ⟨h1, h2, h3, h4⟩ := h
  refine ⟨h1, h2, h3, fun p hp => ?_⟩
  obtain ⟨a1, ⟨a2, a3⟩, a4⟩ := h4 p hp
  refine ⟨a1, ⟨by rw [sr_gr (by decide)]; exact a2, by rw [sr_gr (by omega)]; exact a3⟩, fun n e hn he => ?_⟩
  rw [sr_gr (by omega)]
  exact rv_sr (a4 n e hn he) (by decide) (by rw [hF.c 19 30 rfl]; decide)
theorem szP_ok {c : Bool × Tx} (h : PGc H g K R) (hp : p < 6) (hc : c.2.length ≤ 40) : szP K ((pg R p).length + 1) c (pv (pg R p ++ [c]) ((pg R p).length + 1)) ≤ 100000 := by
  refine szP_le hc (fun e he => ?_)
  unfold pv at he
  split at he
  · cases he
  · rename_i q
    have q : ¬ (pg R p).length = 0 := q
    rw [show (pg R p).length + 1 - 1 - 1 = (pg R p).length - 1 by omega, List.getElem?_append_left (by omega)] at he
    obtain ⟨-, -, a4⟩ := h.2.2.2 p hp
    exact (a4 (pg R p).length e (by omega) he).2.2.2.2.2.1.2.1
theorem pv_last {c : Bool × Tx} {P : List (Bool × Tx)} : pv (P ++ [c]) (P.length + 1) = pv P (P.length + 1) := by
  unfold pv
  split
  · rfl
  · rename_i q
    have q : ¬ P.length = 0 := q
    rw [List.getElem?_append_left (by omega)]
theorem x_make {rv : Rv} (hd : 3 ≤ d) (h : CI H g σ) (hdw : σ.2.2.2.2.2.1 = false) (hlt : σ.2.2.1.length < 24) (hp : rv.1 < 6) (hg : rv.2.1 = true → rv.2.2 = []) (hr : RVc H g σ.1 r (pg σ.2.2.1 rv.1 ++ [rv.2]) ((pg σ.2.2.1 rv.1).length + 1) rv.2)
    (k : ∀ H' g', nx H' = nx H → su H' = su H → CI H' g' (sp_make σ rv).2 → Q (some (vI (sp_make σ rv).1)) (wi H' g')) : cwp d 115 [vR 19, vI (nI rv.1), vR r] (wi H g) Q := by
  have hF := h.1
  have h36 := h.2.2.1
  have h20 := h.2.1
  have hrst := h.rst
  obtain ⟨K, D, R, ct, wr, dw, cl, nb, pd, scr⟩ := σ
  have hdw : dw = false := hdw
  have hlt : R.length < 24 := hlt
  have hr : RVc H g K r (pg R rv.1 ++ [rv.2]) ((pg R rv.1).length + 1) rv.2 := hr
  have h20 : TX H g 20 D := h20
  obtain ⟨hK, gK, h23, h40, hP, ⟨j0, j1, j2, j3⟩, -, hs⟩ := hrst
  have hsz := szP_ok hP hp hr.2.2.2.2.2.1.2.1
  have esz : g r 2 = nI (szP K ((pg R rv.1).length + 1) rv.2 (pv (pg R rv.1 ++ [rv.2]) ((pg R rv.1).length + 1))) := hr.2.2.2.2.2.2.2.1
  have enb : nbk K R rv = (szP K ((pg R rv.1).length + 1) rv.2 (pv (pg R rv.1 ++ [rv.2]) ((pg R rv.1).length + 1)) + 7) / 8 := by unfold nbk; rw [pv_last]
  generalize szP K ((pg R rv.1).length + 1) rv.2 (pv (pg R rv.1 ++ [rv.2]) ((pg R rv.1).length + 1)) = sz at *
  have hnb : nbk K R rv ≤ 100000 := by rw [enb]; omega
  have e8 : (nI sz + 8 - 1) / 8 = nI (nbk K R rv) := by
    rw [enb, show (8 : Int32) = nI 8 from rfl, show (1 : Int32) = nI 1 from rfl, nI_add, nI_sub (by omega), show sz + 8 - 1 = sz + 7 by omega, nI_div (by omega) (by decide)]
  have e2 : (2 : Int32) * nI (nbk K R rv) + 2 = nI (2 * nbk K R rv + 2) := by rw [show (2 : Int32) = nI 2 from rfl, nI_mul, nI_add]
  clear enb
  have hsp : sp_make (K, D, R, ct, wr, dw, cl, nb, pd, scr) rv = if ¬ ct < 0 ∧ ct < nI (2 * nbk K R rv + 2) then (-5, K, D, R, -1, wr + ct, true, decide (nI (nbk K R rv) < ct), nbk K R rv, rv, scr) else (nI ((pg R rv.1).length + 1), K, D, R ++ [rv], -1, wr + nI (2 * nbk K R rv + 2), dw, cl, nb, pd, scr) := rfl
  rw [hsp] at k
  clear hsp
  generalize nbk K R rv = B at *
  obtain ⟨l36, h36⟩ := h36
  have L20 := hF.t20
  have L23 := hF.t23
  have L36 := hF.t36
  have lk : lk2 fRL (42 + 2 * rv.1) ((pg R rv.1).length + 1) = none := by
    have e : rv.1 = 0 ∨ rv.1 = 1 ∨ rv.1 = 2 ∨ rv.1 = 3 ∨ rv.1 = 4 ∨ rv.1 = 5 := by omega
    rcases e with e | e | e | e | e | e <;> rw [e] <;> rfl
  have made : ∀ g1 : Nat → Nat → Int32, (∀ a, a ≠ 39 → g1 a = g a) → g1 39 0 = wr + nI (2 * B + 2) → g1 39 1 = -1 → g1 39 2 = g 39 2 → ¬ (¬ ct < 0 ∧ ct < nI (2 * B + 2)) → wp (d - 1) sc_P_makeRevision 11 [vR 19, vI (nI rv.1), vR r] [vI 1] (wi H g1) Q := by
    intro g1 f1 q0 q1 q2 hno
    rw [if_neg hno] at k
    have fH2 : Fix (sr H (42 + 2 * rv.1) ((pg R rv.1).length + 1) r) := fix_sr hF lk
    refine f_P_makeRevision_11 hF (fun _ => x_keep (by omega) hF (hP.fr (fun a _ ha => f1 a ha)) hlt hp hg (hr.fr (fun a _ ha => f1 a ha)) (fun g2 f2 f19 hP2 => f_P_makeRevision_33 fH2 (k _ g2 rfl rfl ?_))) (fun z => absurd z (by decide))
    have f12 : ∀ a, a ≠ 19 → a ≠ 39 → (∀ q, q < 6 → a ≠ 41 + 2 * q) → g2 a = g a := fun a z1 z2 z3 => by rw [f2 a z1 z3, f1 a z2]
    have e39 : g2 39 = g1 39 := f2 39 (by decide) (fun q hq => by omega)
    have tx : ∀ t l, t = 20 ∨ t = 23 ∨ t = 36 → TL H t → TX H g t l → TX (sr H (42 + 2 * rv.1) ((pg R rv.1).length + 1) r) g2 t l := fun t l ht hL hX => by
      refine tx_sr (hX.of hL (f12 _ (by omega) (by omega) (fun q hq => by omega)) (f12 _ (by omega) (by omega) (fun q hq => by omega)) (f12 _ (by omega) (by omega) (fun q hq => by omega))) (by omega)
    refine ⟨fH2, tx 20 D (by decide) L20 h20, ⟨l36, tx 36 l36 (by decide) L36 h36⟩, hK, by rw [f19 0 (by decide), f1 19 (by decide)]; exact gK, tx 23 [] (by decide) L23 h23, by rw [f12 40 (by decide) (by decide) (fun q hq => by omega)]; exact h40, hP2, ⟨by rw [e39]; exact q0, by rw [e39]; exact q1, Or.inl rfl, by rw [e39, q2]; exact j3⟩, (fun z => by rw [hdw] at z; cases z), ?_⟩
    rw [f12 56 (by decide) (by decide) (fun q hq => by omega), f12 57 (by decide) (by decide) (fun q hq => by omega)]
    exact hs
  have cutc : ∀ (g1 : Nat → Nat → Int32) (cl' : Bool), (∀ a, a ≠ 39 → g1 a = g a) → g1 39 0 = wr + ct → g1 39 1 = -1 → g1 39 2 = 1 → g1 39 3 = zB cl' → g1 39 4 = nI (if cl' = true then B + 1 else 1) → (¬ ct < 0 ∧ ct < nI (2 * B + 2)) → decide (nI B < ct) = cl' → wp (d - 1) sc_P_makeRevision 11 [vR 19, vI (nI rv.1), vR r] [vI 0] (wi H g1) Q := by
    intro g1 cl' f1 q0 q1 q2 q3 q4 hyes hcl
    rw [if_pos hyes, hcl] at k
    have fH2 : Fix (sr H 19 9 r) := fix_sr hF rfl
    refine f_P_makeRevision_11 hF (fun z => absurd rfl z) (fun _ => k _ _ rfl rfl ?_)
    generalize hg2 : sm_u2 g1 19 10 (nI rv.1) = g2
    have f2 : ∀ a, a ≠ 19 → a ≠ 39 → g2 a = g a := fun a z1 z2 => by rw [← hg2, u2_na z1, f1 a z2]
    have f19 : ∀ j, j ≠ 10 → g2 19 j = g 19 j := fun j hj => by rw [← hg2, u2_ne (Or.inr hj), f1 19 (by decide)]
    have p19 : g2 19 10 = nI rv.1 := by rw [← hg2, u2_self]
    have e39 : g2 39 = g1 39 := by rw [← hg2, u2_na (by decide)]
    clear hg2
    have tx : ∀ t l, t = 20 ∨ t = 23 ∨ t = 36 → TL H t → TX H g t l → TX (sr H 19 9 r) g2 t l := fun t l ht hL hX => by
      refine tx_sr (hX.of hL (f2 _ (by omega) (by omega)) (f2 _ (by omega) (by omega)) (f2 _ (by omega) (by omega))) (by omega)
    have rvf : ∀ {r' P' n' e'}, RVc H g K r' P' n' e' → RVc (sr H 19 9 r) g2 K r' P' n' e' := fun {r' P' n' e'} z => by
      refine rv_sr ?_ (by decide) (by rw [hF.c 19 30 rfl]; decide)
      obtain ⟨w1, w2, w3, w4, w5, w6, w7, w8, w9⟩ := z
      have er : g2 r' = g r' := f2 r' (by omega) (by omega)
      have et : ∀ b, b ≤ 2 → g2 (gr H r' 0 + b) = g (gr H r' 0 + b) := fun b hb => f2 _ (by omega) (by omega)
      exact ⟨w1, w2, w3, w4, w5, w6.of w5 (et 0 (by decide)) (et 1 (by decide)) (et 2 (by decide)), by rw [er]; exact w7, by rw [er]; exact w8, by rw [er]; exact w9⟩
    refine ⟨fH2, tx 20 D (by decide) L20 h20, ⟨l36, tx 36 l36 (by decide) L36 h36⟩, hK, by rw [f19 0 (by decide)]; exact gK, tx 23 [] (by decide) L23 h23, by rw [f2 40 (by decide) (by decide)]; exact h40, ?_, ⟨by rw [e39]; exact q0, by rw [e39]; exact q1, Or.inl rfl, by rw [e39, q2]; rfl⟩, fun _ => ⟨by rw [e39]; exact q3, by rw [e39]; exact q4, by omega, p19, hp, hlt, hg, ?_⟩, by rw [f2 56 (by decide) (by decide), f2 57 (by decide) (by decide)]; exact hs⟩
    · refine ⟨hP.1, by rw [f19 8 (by decide)]; exact hP.2.1, hP.2.2.1, fun q hq => ?_⟩
      obtain ⟨a1, ⟨a2, a3⟩, a4⟩ := hP.2.2.2 q hq
      refine ⟨by rw [f2 _ (by omega) (by omega)]; exact a1, ⟨by rw [sr_gr (by decide)]; exact a2, by rw [sr_gr (by omega)]; exact a3⟩, fun n e hn he => ?_⟩
      rw [sr_gr (by omega)]
      exact rvf (a4 n e hn he)
    · rw [gr_sr, if_pos ⟨rfl, rfl⟩]
      exact rvf hr
  refine e_P_makeRevision (by omega) (hF.c 19 30 rfl) (f_P_makeRevision_0 hF hr.1 ?_)
  rw [esz]
  refine e_Journal_carryOut (by omega) (hF.c 39 20 rfl) (f_Journal_carryOut_0 hF (fun q => ?_) (fun q q2 q3 => ?_) (fun q q2 q3 => ?_) (fun q q2 => ?_))
  · rw [e8, e2, j0]
    rw [j1] at q
    refine made _ (fun a ha => by rw [u2_na ha, u2_na ha]) u2_self (by rw [u2_ne (Or.inr (by decide)), u2_self]) (by rw [u2_ne (Or.inr (by decide)), u2_ne (Or.inr (by decide))]) (fun z => z.1 (by rw [q]; decide))
  · rw [e8, e2, j1] at q2
    rw [e8, j1] at q3
    rw [j1] at q
    rw [j0, j1]
    exact cutc _ false (fun a ha => by rw [u2_na ha, u2_na ha, u2_na ha, u2_na ha, u2_na ha]) (by rw [u2_ne (Or.inr (by decide)), u2_ne (Or.inr (by decide)), u2_ne (Or.inr (by decide)), u2_self]) (by rw [u2_ne (Or.inr (by decide)), u2_ne (Or.inr (by decide)), u2_ne (Or.inr (by decide)), u2_ne (Or.inr (by decide)), u2_self]) (by rw [u2_ne (Or.inr (by decide)), u2_ne (Or.inr (by decide)), u2_self]) (by rw [u2_ne (Or.inr (by decide)), u2_self]; rfl) (by rw [u2_self]; rfl) ⟨j2.resolve_left q, q2⟩ (decide_eq_false (Int32.not_lt.mpr q3))
  · rw [e8, e2, j1] at q2
    rw [e8, j1] at q3
    rw [j1] at q
    rw [e8, j0, j1, nI_1]
    exact cutc _ true (fun a ha => by rw [u2_na ha, u2_na ha, u2_na ha, u2_na ha, u2_na ha]) (by rw [u2_ne (Or.inr (by decide)), u2_ne (Or.inr (by decide)), u2_ne (Or.inr (by decide)), u2_self]) (by rw [u2_ne (Or.inr (by decide)), u2_ne (Or.inr (by decide)), u2_ne (Or.inr (by decide)), u2_ne (Or.inr (by decide)), u2_self]) (by rw [u2_ne (Or.inr (by decide)), u2_ne (Or.inr (by decide)), u2_self]) (by rw [u2_ne (Or.inr (by decide)), u2_self]; rfl) (by rw [u2_self, if_pos rfl]) ⟨j2.resolve_left q, q2⟩ (decide_eq_true (Int32.not_le.mp q3))
  · rw [e8, e2, j1] at q2
    rw [j1] at q
    rw [e8, e2, j0]
    exact made _ (fun a ha => by rw [u2_na ha, u2_na ha]) u2_self (by rw [u2_ne (Or.inr (by decide)), u2_self]) (by rw [u2_ne (Or.inr (by decide)), u2_ne (Or.inr (by decide))]) (fun z => q2 z.2)
end PF
