/-! the class: a revision is kept -/
theorem pv_app {P : List (Bool × Tx)} {x : Bool × Tx} {n : Nat} (h : n ≤ P.length) : pv (P ++ [x]) n = pv P n := by
  unfold pv
  split
  · rfl
  · rw [List.getElem?_append_left (by omega)]
theorem cu_app {P : List (Bool × Tx)} {x : Bool × Tx} {n : Nat} (h1 : 1 ≤ n) (h : n ≤ P.length) : cu (P ++ [x]) n = cu P n := by
  unfold cu
  rw [List.getD_eq_getElem?_getD, List.getD_eq_getElem?_getD, List.getElem?_append_left (by omega)]
theorem stp_app {K : Nat} {P : List (Bool × Tx)} {x : Bool × Tx} : ∀ {n : Nat}, n ≤ P.length → stp K (P ++ [x]) n = stp K P n := by
  intro n
  induction n with
  | zero => intro _; rfl
  | succ n ih =>
    intro h
    rw [stp, stp, cu_app (by omega) h, pv_app h, ih (by omega)]
section PE
variable {d : Nat} {Q : Option AV → AH → Prop} {H : AH} {g g' : Nat → Nat → Int32} {K r n p : Nat} {P : List (Bool × Tx)} {e : Bool × Tx} {R : List Rv} {σ : SG}
theorem RVc.app {x : Bool × Tx} (h : RVc H g K r P n e) (hn : n ≤ P.length) : RVc H g K r (P ++ [x]) n e := by
  obtain ⟨h1, h2, h3, h4, h5, h6, h7, h8, h9⟩ := h
  exact ⟨h1, h2, h3, h4, h5, h6, h7, by rw [pv_app hn]; exact h8, by rw [stp_app hn]; exact h9⟩
theorem rv_sr {a k v : Nat} (h : RVc H g K r P n e) (ha : a < 71) (hk : (kd H a).1 ≠ 28) : RVc (sr H a k v) g K r P n e := by
  obtain ⟨h1, h2, h3, h4, h5, h6, h7, h8, h9⟩ := h
  have er : gr (sr H a k v) r 0 = gr H r 0 := sr_gr (by omega) 0
  have et : gr H r 0 ≠ a := fun z => hk (by rw [← z]; exact h5.1.1)
  refine ⟨h1, h2, h3, by rw [er]; exact h4, by rw [er]; exact tl_sr h5 et, by rw [er]; exact tx_sr h6 et, h7, h8, h9⟩
theorem pg_snoc (R : List Rv) (rv : Rv) (q : Nat) : pg (R ++ [rv]) q = pg R q ++ (if rv.1 = q then [rv.2] else []) := by rw [pg_app, pg_one]
theorem x_keep {rv : Rv} (hd : 2 ≤ d) (hF : Fix H) (h : PGc H g K R) (hlt : R.length < 24) (hp : rv.1 < 6) (hg : rv.2.1 = true → rv.2.2 = []) (hr : RVc H g K r (pg R rv.1 ++ [rv.2]) ((pg R rv.1).length + 1) rv.2)
    (k : ∀ g', (∀ a, a ≠ 19 → (∀ q, q < 6 → a ≠ 41 + 2 * q) → g' a = g a) → (∀ j, j ≠ 8 → g' 19 j = g 19 j) → PGc (sr H (42 + 2 * rv.1) ((pg R rv.1).length + 1) r) g' K (R ++ [rv]) → Q (some (vI (nI ((pg R rv.1).length + 1)))) (wi (sr H (42 + 2 * rv.1) ((pg R rv.1).length + 1) r) g')) : cwp d 116 [vR 19, vI (nI rv.1), vR r] (wi H g) Q := by
  obtain ⟨h1, h2, h3, h4⟩ := h
  obtain ⟨a1, ⟨a2, a3⟩, a4⟩ := h4 rv.1 hp
  obtain ⟨c1, c2, c3⟩ := fx_pg hF hp
  have hle := pg_le R rv.1
  have ep : gr H 26 (nI rv.1).toNatClampNeg = 41 + 2 * rv.1 := by rw [nI_clamp (by omega)]; exact a2
  refine e_P_keep (by omega) (hF.c 19 30 rfl) (f_P_keep_0 hF (vp_in_nI hp (by decide)) ?_)
  rw [ep, h2, nI_1]
  have e1 : gi (si (wi H (sm_u2 g 19 8 (nI (R.length + 1)))) (41 + 2 * rv.1) 1 (gi (wi H (sm_u2 g 19 8 (nI (R.length + 1)))) (41 + 2 * rv.1) 1 + 1)) (41 + 2 * rv.1) 1 = nI ((pg R rv.1).length + 1) := by
    rw [gi_si, if_pos ⟨rfl, rfl⟩, wi_gi, u2_na (by omega), a1, nI_1]
  refine e_Page_append (by omega) c1 (t_Page_append_0 c1 (by rw [wi_kd, wi_gr, c2, c3]) (by rw [e1, wi_kd, wi_gr, c2, c3]; exact vp_in_nI (by show _ < 25; omega) (by decide)) hr.1 ?_)
  rw [e1, wi_gi, u2_na (show 41 + 2 * rv.1 ≠ 19 by omega), a1, nI_1, nI_clamp (by omega), wi_gr, c2, wi_si, wi_sr]
  refine f_P_keep_20 (fix_sr hF ?_) ?_
  · have e : rv.1 = 0 ∨ rv.1 = 1 ∨ rv.1 = 2 ∨ rv.1 = 3 ∨ rv.1 = 4 ∨ rv.1 = 5 := by omega
    rcases e with e | e | e | e | e | e <;> rw [e] <;> rfl
  generalize hg2 : sm_u2 (sm_u2 g 19 8 (nI (R.length + 1))) (41 + 2 * rv.1) 1 (nI ((pg R rv.1).length + 1)) = g2
  have f2 : ∀ a, a ≠ 19 → (∀ q, q < 6 → a ≠ 41 + 2 * q) → g2 a = g a := fun a z1 z2 => by rw [← hg2, u2_na (z2 _ hp), u2_na z1]
  have f3 : ∀ a, KC H a → a ≠ 19 → (∀ q, q < 6 → a ≠ 41 + 2 * q) → g2 a = g a := fun a _ => f2 a
  have rvf : ∀ {r' P' n' e'}, RVc H g K r' P' n' e' → RVc (sr H (42 + 2 * rv.1) ((pg R rv.1).length + 1) r) g2 K r' P' n' e' := fun {r' P' n' e'} z => by
    refine rv_sr ?_ (by omega) (by rw [c3]; decide)
    obtain ⟨q1, q2, q3, q4, q5, q6, q7, q8, q9⟩ := z
    have er : g2 r' = g r' := f2 r' (by omega) (fun q hq => by omega)
    have et : ∀ b, b ≤ 2 → g2 (gr H r' 0 + b) = g (gr H r' 0 + b) := fun b hb => f2 _ (by omega) (fun q hq => by omega)
    exact ⟨q1, q2, q3, q4, q5, q6.of q5 (et 0 (by decide)) (et 1 (by decide)) (et 2 (by decide)), by rw [er]; exact q7, by rw [er]; exact q8, by rw [er]; exact q9⟩
  refine k g2 f2 (fun j hj => by rw [← hg2, u2_na (by omega), u2_ne (Or.inr hj)]) ⟨by simp; omega, ?_, ?_, fun q hq => ?_⟩
  · rw [← hg2, u2_na (by omega), u2_self]; simp
  · intro z hz
    rcases List.mem_append.mp hz with z1 | z1
    · exact h3 z z1
    · have : z = rv := by simpa using z1
      subst this
      exact ⟨hp, hg⟩
  · obtain ⟨b1, ⟨b2, b3⟩, b4⟩ := h4 q hq
    rw [pg_snoc]
    by_cases eq : rv.1 = q
    · subst eq
      rw [if_pos rfl]
      refine ⟨by rw [← hg2, u2_self, List.length_append]; rfl, ⟨by rw [sr_gr (by omega)]; exact b2, by rw [gr_sr, if_neg (by omega)]; exact b3⟩, fun n' e' hn' he' => ?_⟩
      have hnl := (List.getElem?_eq_some_iff.mp he').1
      rw [List.length_append] at hnl
      have hnl : n' - 1 < (pg R rv.1).length + 1 := hnl
      by_cases en : n' = (pg R rv.1).length + 1
      · subst en
        rw [List.getElem?_append_right (by omega), show (pg R rv.1).length + 1 - 1 - (pg R rv.1).length = 0 by omega] at he'
        cases he'
        rw [gr_sr, if_pos ⟨rfl, rfl⟩]
        exact rvf hr
      · rw [List.getElem?_append_left (by omega)] at he'
        rw [gr_sr, if_neg (fun z => en z.2)]
        exact rvf ((b4 n' e' hn' he').app (by omega))
    · rw [if_neg eq, List.append_nil]
      refine ⟨by rw [← hg2, u2_na (by omega), u2_na (by omega)]; exact b1, ⟨by rw [sr_gr (by omega)]; exact b2, by rw [sr_gr (by omega)]; exact b3⟩, fun n' e' hn' he' => ?_⟩
      rw [sr_gr (by omega)]
      exact rvf (b4 n' e' hn' he')
end PE
