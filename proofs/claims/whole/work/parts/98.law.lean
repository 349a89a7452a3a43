/-! kinds from the next handle on stay -/
theorem ast_kd {txt : Nat → List Int32} {i : Ins} {len pc pc' : Nat} {ls st ls' st' : List AV} {H H' : AH} {o : Option Prop} (h : ast txt i len pc ls st H = some (o, pc', ls', st', H')) : ∀ a, nx H' ≤ a → kd H' a = kd H a := by
  unfold ast at h
  split at h <;> first
    | (cases h; done)
    | (simp only [Option.some.injEq, Prod.mk.injEq] at h; obtain ⟨-, -, -, -, rfl⟩ := h; intro a ha; first | rfl | (rw [nx_al] at ha; rw [kd_al, if_neg (by omega)]))
    | (split at h <;> first
        | (cases h; done)
        | (simp only [Option.some.injEq, Prod.mk.injEq] at h; obtain ⟨-, -, -, -, rfl⟩ := h; intro a ha; rfl))
theorem Path_kd {txt : Nat → List Int32} {P : Nat → List AV → AH → Option AV → AH → Prop} (hP : ∀ m as H r H', P m as H r H' → (nx H ≤ nx H' ∧ su H ≤ su H') ∧ ∀ a, nx H' ≤ a → kd H' a = kd H a) {C : SC} :
    ∀ (n pc : Nat) (ls st : List AV) (H : AH) (r : Option AV) (H' : AH), Path txt P C n pc ls st H r H' → ∀ a, nx H' ≤ a → kd H' a = kd H a := by
  intro n
  induction n with
  | zero => intro pc ls st H r H' h; exact h.elim
  | succ n ih =>
    intro pc ls st H r H' h
    simp only [Path] at h
    split at h
    · rcases h with ⟨-, x, -, -, -, rfl⟩ | ⟨-, a, -, -, rfl⟩ | ⟨-, -, -, rfl⟩ | ⟨-, as, rest, r1, H1, -, -, -, hc, hk⟩ | ⟨-, x, rest, -, hk⟩ | ⟨c, st', -, hk⟩ | ⟨o, pc', ls', st', H1, ha, -, hk⟩
      · exact fun _ _ => rfl
      · exact fun _ _ => rfl
      · exact fun _ _ => rfl
      · have h1 := (hP _ _ _ _ _ hc).2
        have h2 := ih _ _ _ _ _ _ hk
        have h3 := (Path_grow (fun m as H r H' h => (hP m as H r H' h).1) n _ _ _ _ _ _ hk).1
        exact fun a q => by rw [h2 a q, h1 a (by omega)]
      · exact ih _ _ _ _ _ _ hk
      · rcases hk with ⟨-, hk⟩ | ⟨-, hk⟩ <;> exact ih _ _ _ _ _ _ hk
      · have h1 := ast_kd ha
        have h2 := ih _ _ _ _ _ _ hk
        have h3 := (Path_grow (fun m as H r H' h => (hP m as H r H' h).1) n _ _ _ _ _ _ hk).1
        exact fun a q => by rw [h2 a q, h1 a (by omega)]
    · exact h.elim
theorem Call_kd {txt : Nat → List Int32} {mt : Nat → SC × Nat × Nat} : ∀ (d m : Nat) (as : List AV) (H : AH) (r : Option AV) (H' : AH), Call txt mt d m as H r H' → ∀ a, nx H' ≤ a → kd H' a = kd H a := by
  intro d
  induction d with
  | zero => intro m as H r H' h; exact h.elim
  | succ d ih =>
    intro m as H r H' h
    obtain ⟨-, n, hp⟩ := h
    exact Path_kd (fun m as H r H' h => ⟨Call_grow d m as H r H' h, ih m as H r H' h⟩) n _ _ _ _ _ _ hp
theorem cwp_kd {d m : Nat} {as : List AV} {H : AH} {Q : Option AV → AH → Prop} (h : cwp d m as H Q) : cwp d m as H (fun r H' => Q r H' ∧ nx H ≤ nx H' ∧ ∀ a, nx H' ≤ a → kd H' a = kd H a) := by
  obtain ⟨r, H', hc, hq⟩ := h
  exact ⟨r, H', hc, hq, (Call_grow _ _ _ _ _ _ hc).1, Call_kd _ _ _ _ _ _ hc⟩
/-! the law: class and reference beside one another -/
theorem CI.owi {H : AH} {g g2 : Nat → Nat → Int32} {σ : SG} (h : CI H g σ) : CI (wi H g2) g σ := h
def LI (L : Nat) (H : AH) (σ : SG) : Prop := CI H (gi H) σ ∧ RI (gi H) σ ∧ R58 H ∧ CL Sc H ∧ KT H ∧ (∀ a, nx H ≤ a → 20 ≤ (kd H a).1 → False) ∧ kd H 1 = (4, L)
section LAW
variable {d L : Nat} {H : AH} {σ σ' : SG} {m1 m2 : Nat} {as1 as2 : List AV} {y : Option AV} {Q : Option AV → AH → Prop}
theorem law_pair (hL : LI L H σ) (hm1 : m1 < 118) (hm2 : 118 ≤ m2 ∧ m2 < 173) (ha1 : RL Sc as1) (ha2 : ∀ n, RL (Sr n) as2)
    (hc : cwp d m1 as1 (wi H (gi H)) (fun r H' => r = y ∧ nx H' ≤ nx H + 4 ∧ su H' ≤ su H + 90 ∧ CI H' (gi H') σ'))
    (hr : ∀ H1, Fix H1 → RI (gi H1) σ → cwp d m2 as2 (wi H1 (gi H1)) (fun r H' => r = y ∧ ∃ g', H' = wi H1 g' ∧ RI g' σ')) :
    cwp d m1 as1 H (fun r1 H1 => r1 = y ∧ kd H1 1 = (4, L) ∧ gi H1 1 = gi H 1 ∧ cwp d m2 as2 H1 (fun r2 H2 => r2 = y ∧ gi H2 1 = gi H 1 ∧ LI L H2 σ' ∧ nx H2 ≤ nx H + 4 ∧ su H2 ≤ su H + 90)) := by
  obtain ⟨hC, hR, h58, hCL, hK, hz, h1⟩ := hL
  have hF := hC.1
  have h71 := hF.1
  have hc : cwp d m1 as1 H (fun r H' => r = y ∧ nx H' ≤ nx H + 4 ∧ su H' ≤ su H + 90 ∧ CI H' (gi H') σ') := hc
  refine CWP.mono (cwp_kd (cwp_cls hm1 h71 hCL ha1 hc)) ?_
  rintro r1 H1 ⟨⟨⟨rfl, hn, hs, hC1⟩, hCL1, hf, hzk⟩, hn2, hkd⟩
  have z1 : ZK (kd H 1).1 := by rw [h1]; exact Or.inr (Or.inl rfl)
  obtain ⟨g1, k1⟩ := hzk 1 (by omega) z1
  have k0 := (hzk 0 (by omega) (Or.inl h58.1)).2
  have hF1 := hC1.1
  have hR1 : RI (gi H1) σ := hR.fr (fun j _ => by rw [(hf 58 (by decide) (by decide)).1]) (hf 59 (by decide) (by decide)).1 (hf 60 (by decide) (by decide)).1 (hf 61 (by decide) (by decide)).1 (hf 62 (by decide) (by decide)).1 (hf 70 (by decide) (by decide)).1
  have h581 : R58 H1 := ⟨by rw [k0]; exact h58.1, fun k => by rw [(hf 58 (by decide) (by decide)).2]; exact h58.2 k⟩
  have hK1 : KT H1 := fun j hj => by rw [(hzk (2 + j) (by omega) (by rw [hK j hj]; exact Or.inr (Or.inr rfl))).2]; exact hK j hj
  have hz1 : ∀ a, nx H1 ≤ a → 20 ≤ (kd H1 a).1 → False := fun a ha hk => hz a (by omega) (by rw [hkd a ha] at hk; exact hk)
  refine ⟨rfl, by rw [k1]; exact h1, g1, ?_⟩
  have hr1 : cwp d m2 as2 H1 (fun r H' => r = r1 ∧ ∃ g', H' = wi H1 g' ∧ RI g' σ') := hr H1 hF1 hR1
  refine CWP.mono (cwp_ref hm2 hF1 h581 hz1 (ha2 _) hr1) ?_
  rintro r2 H2 ⟨⟨rfl, g', rfl, hR2⟩, hfr⟩
  have e1 : g' 1 = gi H1 1 := hfr 1 (by have := hF1.1; omega) (by decide)
  have h711 := hF1.1
  have hfr' : ∀ a, a < nx H1 → ¬ (58 ≤ a ∧ a ≤ 70) → g' a = gi H1 a := hfr
  refine ⟨rfl, e1.trans g1, ⟨?_, hR2, h581, hCL1, hK1, hz1, by rw [wi_kd, k1]; exact h1⟩, hn, hs⟩
  have hC2 : CI H1 g' σ' := by
    obtain ⟨l36, h36⟩ := hC1.2.2.1
    obtain ⟨-, h20, -, hrst⟩ := hC1
    refine ⟨hF1, h20.of hF1.t20 (hfr' _ (by omega) (by decide)) (hfr' _ (by omega) (by decide)) (hfr' _ (by omega) (by decide)), ⟨l36, h36.of hF1.t36 (hfr' _ (by omega) (by decide)) (hfr' _ (by omega) (by decide)) (hfr' _ (by omega) (by decide))⟩, hrst.fr hF1 (fun a ha => hfr' a (by unfold KC at ha; omega) (by unfold KC at ha; omega))⟩
  exact hC2.owi
end LAW
