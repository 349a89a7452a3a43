/-! the reference: merge, its loop; save -/
theorem zip_get {α β : Type} {A : List α} {B : List β} {i : Nat} {a : α} {b : β} (ha : A[i]? = some a) (hb : B[i]? = some b) : (A.zip B)[i]? = some (a, b) := by
  rw [List.getElem?_zip_eq_some]
  exact ⟨ha, hb⟩
theorem zip_inv {α β : Type} {A : List α} {B : List β} {i : Nat} {q : α × β} (h : (A.zip B)[i]? = some q) : A[i]? = some q.1 ∧ B[i]? = some q.2 := List.getElem?_zip_eq_some.mp h
section MODM
variable {d : Nat} {Q : Option AV → AH → Prop} {H : AH} {g : Nat → Nat → Int32} {xo xa : Int32} {lo la lb : Tx}
set_option maxHeartbeats 4000000 in
theorem lm_mloop (hd : 5 ≤ d) (hF : Fix H) (ho : SL g xo lo) (ha : SL g xa la) (hb : ST g 24 lb) (hxo : xo ≠ nI 26) (hxa : xa ≠ nI 26)
    (wA : ∀ i, i < nLn lo → g 64 i = ptr (PR (LN lo) (LN la)) i) (wB : ∀ i, i < nLn lo → g 65 i = ptr (PR (LN lo) (LN lb)) i) {F : Option (List Ln)}
    (kc : F = none → ∀ g', O26 g g' → Q (some (vI 0)) (wi H g')) (kn : ∀ ls g', F = some ls → O26 g g' → MB g' (!ls.isEmpty) (em false ls) → (em false ls).length ≤ 99 → Q (some (vI 1)) (wi H g')) :
    ∀ (M i x y : Nat) (out : List Ln) (g1 : Nat → Nat → Int32) (u9 u10 u11 u12 : AV), (nLn lo - i) + (nLn la - x) + (nLn lb - y) ≤ M → i ≤ nLn lo → x ≤ nLn la → y ≤ nLn lb →
    F = (mg (LN lo) (LN la) (LN lb) (((PR (LN lo) (LN la)).zip (PR (LN lo) (LN lb))).drop i) i i x y).map (fun r => out ++ r) →
    (∀ z q, i ≤ z → (PR (LN lo) (LN la))[z]? = some (some q) → x ≤ q) → (∀ z q, i ≤ z → (PR (LN lo) (LN lb))[z]? = some (some q) → y ≤ q) →
    O26 g g1 → MB g1 (!out.isEmpty) (em false out) → (em false out).length ≤ lsp (LN la) 0 x + lsp (LN lb) 0 y →
    wp d sc_Model_merge 53 [vR 58, vI xo, vI xa, vI (nI i), vI (nI x), vI (nI y), vI (nI (nLn lo)), vI (nI (nLn la)), vI (nI (nLn lb)), u9, u10, u11, u12] [] (wi H g1) Q := by
  have hlo := ho.le
  have hla := ha.le
  have hlb := hb.2.1
  have nO := nLn_le lo
  have nA := nLn_le la
  have nB := nLn_le lb
  have LO := LN_len lo
  have LA := LN_len la
  have LB := LN_len lb
  have PA := PR_len (LN lo) (LN la)
  have PB := PR_len (LN lo) (LN lb)
  have PZ : ((PR (LN lo) (LN la)).zip (PR (LN lo) (LN lb))).length = nLn lo := by rw [List.length_zip]; omega
  generalize hps : (PR (LN lo) (LN la)).zip (PR (LN lo) (LN lb)) = ps at PZ
  intro M
  induction M with
  | zero =>
    intro i x y out g1 u9 u10 u11 u12 hM hi hx hy hFm mA mB h1 hm hl
    have e1 : i = nLn lo := by omega
    have e2 : x = nLn la := by omega
    have e3 : y = nLn lb := by omega
    have z1 : ¬ nI i < nI (nLn lo) := nI_nlt (by omega) (by omega)
    have z2 : ¬ nI x < nI (nLn la) := nI_nlt (by omega) (by omega)
    have z3 : nI (nLn lb) ≤ nI y := nI_le (by omega) (by omega)
    refine f_Model_merge_53 hF (fun q => absurd q z1) (fun _ q => absurd q z2) (fun _ _ _ => kn out g1 ?_ h1 hm (by have tA := lsp_le (LN la) 0 x; have tB := lsp_le (LN lb) 0 y; rw [lall_LN] at tA tB; omega)) (fun _ _ q => absurd z3 q)
    rw [hFm, mg_end (by omega)]
    unfold rgn
    rw [e1, e2, e3, LO, LA, LB, sub_0, sub_0, sub_0, if_pos rfl]
    simp
  | succ M ih =>
    intro i x y out g1 u9 u10 u11 u12 hM hi hx hy hFm mA mB h1 hm hl
    have f64 : g1 64 = g 64 := h1.1 64 (by decide) (by decide)
    have f65 : g1 65 = g 65 := h1.1 65 (by decide) (by decide)
    -- the search for the next line that both have
    have find : (i < nLn lo ∨ x < nLn la ∨ y < nLn lb) → ∀ (m t : Nat) (u10 u11 u12 : AV), t + m = nLn lo → i ≤ t → (∀ z, i ≤ z → z < t → ∀ q, ps[z]? = some q → q.1 = none ∨ q.2 = none) →
        wp d sc_Model_merge 76 [vR 58, vI xo, vI xa, vI (nI i), vI (nI x), vI (nI y), vI (nI (nLn lo)), vI (nI (nLn la)), vI (nI (nLn lb)), vI (nI t), u10, u11, u12] [] (wi H g1) Q := by
      intro hmore m
      induction m with
      | zero =>
        intro t u10 u11 u12 ht hit hnot
        have et : t = nLn lo := by omega
        have z : nI (nLn lo) ≤ nI t := nI_le (by omega) (by omega)
        have hmg : mg (LN lo) (LN la) (LN lb) (ps.drop i) i i x y = rgn (LN lo) (LN la) (LN lb) i t x (nLn la) y (nLn lb) := by
          rw [mg_regN (by omega) (fun w h2 q hq => hnot w h2 (by have := (List.getElem?_eq_some_iff.mp hq).1; omega) q hq), LO, LA, LB, et]
        have reg : cwp d 124 [vR 58, vI xa, vI (nI x), vI (nI (nLn la)), vI xo, vI (nI i), vI (nI t)] (wi H g1) (fun r1 H1 => wp d sc_Model_merge 217 [vR 58, vI xo, vI xa, vI (nI i), vI (nI x), vI (nI y), vI (nI (nLn lo)), vI (nI (nLn la)), vI (nI (nLn lb)), vI (nI t), vI (nI (nLn la)), vI (nI (nLn lb)), vI 0] (r1.toList ++ []) H1 Q) := by
          refine lm_region hd hF ho ha hb hxo hxa hit (by omega) hx (Nat.le_refl _) hy (Nat.le_refl _) g1 h1 hm hl (fun hr g' hg' => kc (by rw [hFm, hmg, hr]; rfl) g' hg') (fun rg g2 hr h2 hm2 hl2 => ?_)
          refine ih t (nLn la) (nLn lb) (out ++ rg) g2 _ _ _ _ (by omega) (by omega) (Nat.le_refl _) (Nat.le_refl _) ?_ (fun w q hw hq => ?_) (fun w q hw hq => ?_) h2 hm2 hl2
          · rw [hFm, hmg, hr, mg_end (by omega)]
            unfold rgn
            rw [et, LO, LA, LB, sub_0, sub_0, sub_0, if_pos rfl]
            simp
          · have := (List.getElem?_eq_some_iff.mp hq).1; omega
          · have := (List.getElem?_eq_some_iff.mp hq).1; omega
        refine f_Model_merge_76 hF (fun q => absurd z q) (fun _ _ => reg) (fun _ _ _ => reg) (fun _ _ _ _ => reg) (fun _ q1 q2 q3 => ?_) (fun q => absurd z q) (fun q => absurd z q) (fun q => absurd z q) (fun q => absurd z q) (fun q => absurd z q) (fun q => absurd z q)
        have e1 := (nI_eq (by omega) (by omega)).mp q1
        have e2 := (nI_eq (by omega) (by omega)).mp q2
        have e3 := (nI_eq (by omega) (by omega)).mp q3
        omega
      | succ m ihm =>
        intro t u10 u11 u12 ht hit hnot
        have htl : t < nLn lo := by omega
        have z : ¬ nI (nLn lo) ≤ nI t := nI_ge htl (by omega)
        have hc : (nI t).toNatClampNeg = t := nI_clamp (by omega)
        have gA : g1 64 (nI t).toNatClampNeg = ptr (PR (LN lo) (LN la)) t := by rw [hc, f64]; exact wA t htl
        have gB : g1 65 (nI t).toNatClampNeg = ptr (PR (LN lo) (LN lb)) t := by rw [hc, f65]; exact wB t htl
        have next : (∀ q, ps[t]? = some q → q.1 = none ∨ q.2 = none) → wp d sc_Model_merge 76 [vR 58, vI xo, vI xa, vI (nI i), vI (nI x), vI (nI y), vI (nI (nLn lo)), vI (nI (nLn la)), vI (nI (nLn lb)), vI (nI t + 1), u10, u11, u12] [] (wi H g1) Q := by
          intro hq
          rw [nI_1]
          refine ihm (t + 1) u10 u11 u12 (by omega) (by omega) (fun w h2 h3 q hq2 => ?_)
          by_cases e : w = t
          · subst e; exact hq q hq2
          · exact hnot w h2 (by omega) q hq2
        have hvp : vp_in (nI t) 42 := vp_in_nI (by omega) (by decide)
        rcases ps_get (ps := PR (LN lo) (LN la)) (i := t) (by omega) with hA | ⟨pa, hA⟩
        · rw [ptr_none hA] at gA
          have zA : g1 64 (nI t).toNatClampNeg < 0 := by rw [gA]; decide
          refine f_Model_merge_76 hF (fun _ => hvp) (fun q => absurd q z) (fun q => absurd q z) (fun q => absurd q z) (fun q => absurd q z) (fun _ _ => next (fun q hq => ?_)) (fun _ q => absurd zA q) (fun _ q => absurd zA q) (fun _ q => absurd zA q) (fun _ q => absurd zA q) (fun _ q => absurd zA q)
          rw [← hps] at hq
          have := (zip_inv hq).1
          rw [hA] at this
          exact Or.inl (Option.some.inj this).symm
        · rw [ptr_some hA] at gA
          obtain ⟨a1, a2, a3⟩ := PR_ok hA
          have zA : ¬ g1 64 (nI t).toNatClampNeg < 0 := by rw [gA]; exact nI_pos (by omega)
          rcases ps_get (ps := PR (LN lo) (LN lb)) (i := t) (by omega) with hB | ⟨pb, hB⟩
          · rw [ptr_none hB] at gB
            have zB : ¬ 0 ≤ g1 65 (nI t).toNatClampNeg := by rw [gB]; decide
            refine f_Model_merge_76 hF (fun _ => hvp) (fun q => absurd q z) (fun q => absurd q z) (fun q => absurd q z) (fun q => absurd q z) (fun _ q => absurd q zA) (fun _ _ q => absurd q zB) (fun _ _ q => absurd q zB) (fun _ _ q => absurd q zB) (fun _ _ q => absurd q zB) (fun _ _ _ => next (fun q hq => ?_))
            rw [← hps] at hq
            have := (zip_inv hq).2
            rw [hB] at this
            exact Or.inr (Option.some.inj this).symm
          · rw [ptr_some hB] at gB
            obtain ⟨b1, b2, b3⟩ := PR_ok hB
            have zB : 0 ≤ g1 65 (nI t).toNatClampNeg := by rw [gB]; exact nI_pos' (by omega)
            have hpst : ps[t]? = some (some pa, some pb) := by rw [← hps]; exact zip_get hA hB
            have hxa2 := mA t pa hit hA
            have hyb2 := mB t pb hit hB
            have hmg := mg_reg (O := LN lo) (A := LN la) (B := LN lb) (x := x) (y := y) hit hnot hpst
            have mA2 : ∀ w q, t ≤ w → (PR (LN lo) (LN la))[w]? = some (some q) → pa ≤ q := fun w q h2 h3 => by
              by_cases e : w = t
              · subst e; rw [hA] at h3; cases h3; exact Nat.le_refl _
              · exact Nat.le_of_lt (a3 w q (by omega) h3)
            have mB2 : ∀ w q, t ≤ w → (PR (LN lo) (LN lb))[w]? = some (some q) → pb ≤ q := fun w q h2 h3 => by
              by_cases e : w = t
              · subst e; rw [hB] at h3; cases h3; exact Nat.le_refl _
              · exact Nat.le_of_lt (b3 w q (by omega) h3)
            have reg : ¬ (t = i ∧ pa = x ∧ pb = y) → cwp d 124 [vR 58, vI xa, vI (nI x), vI (nI pa), vI xo, vI (nI i), vI (nI t)] (wi H g1) (fun r1 H1 => wp d sc_Model_merge 217 [vR 58, vI xo, vI xa, vI (nI i), vI (nI x), vI (nI y), vI (nI (nLn lo)), vI (nI (nLn la)), vI (nI (nLn lb)), vI (nI t), vI (nI pa), vI (nI pb), vI 0] (r1.toList ++ []) H1 Q) := by
              intro hno
              refine lm_region hd hF ho ha hb hxo hxa hit (by omega) hxa2 (by omega) hyb2 (by omega) g1 h1 hm hl (fun hr g' hg' => kc (by rw [hFm, hmg, hr]; rfl) g' hg') (fun rg g2 hr h2 hm2 hl2 => ?_)
              refine ih t pa pb (out ++ rg) g2 _ _ _ _ (by omega) (by omega) (by omega) (by omega) ?_ mA2 mB2 h2 hm2 hl2
              rw [hFm, hmg, hr]
              dsimp only
              rw [Option.map_map]
              congr 1
              funext r
              simp [Function.comp]
            refine f_Model_merge_76 hF (fun _ => hvp) (fun q => absurd q z) (fun q => absurd q z) (fun q => absurd q z) (fun q => absurd q z) (fun _ q => absurd q zA) (fun _ _ _ q => ?_) (fun _ _ _ q1 q2 => ?_) (fun _ _ _ q1 q2 q3 => ?_) (fun _ _ _ q1 q2 q3 => ?_) (fun _ _ q => absurd zB q)
            · rw [gA, gB]
              exact reg (fun e => q (by rw [e.1]))
            · rw [gA] at q2
              rw [gA, gB]
              exact reg (fun e => q2 (by rw [e.2.1]))
            · rw [gB] at q3
              rw [gA, gB]
              exact reg (fun e => q3 (by rw [e.2.2]))
            · rw [gA] at q2
              rw [gB] at q3
              have e1 : t = i := (nI_eq (by omega) (by omega)).mp q1
              have e2 : pa = x := (nI_eq (by omega) (by omega)).mp q2
              have e3 : pb = y := (nI_eq (by omega) (by omega)).mp q3
              rw [gA, gB]
              subst e1; subst e2; subst e3
              rw [nI_1, nI_1, nI_1]
              have sa := ha.o26 h1 hxa
              have hline : sub (LN la) pa (pa + 1) = [(LN lo).getD t []] := by
                have hq : (LN la)[pa]? = some ((LN la).getD pa []) := by rw [List.getD_eq_getElem?_getD, List.getElem?_eq_getElem a1]; rfl
                rw [sub_s (Nat.le_refl _) hq, sub_0, List.nil_append, a2]
              have lA := lsp_add2 (X := LN la) (Nat.zero_le pa) (show pa ≤ pa + 1 by omega) (by omega)
              have lB := lsp_add2 (X := LN lb) (Nat.zero_le pb) (show pb ≤ pb + 1 by omega) (by omega)
              have tA := lsp_le (LN la) 0 (pa + 1)
              have tB := lsp_le (LN lb) 0 pb
              rw [lall_LN] at tA tB
              have hel := em_len (sub (LN la) pa (pa + 1)) (!out.isEmpty)
              have hsp : lall (sub (LN la) pa (pa + 1)) = lsp (LN la) pa (pa + 1) := rfl
              have hap : em false (out ++ sub (LN la) pa (pa + 1)) = em false out ++ em (!out.isEmpty) (sub (LN la) pa (pa + 1)) := by rw [em_app, Bool.false_or]
              refine c_emit (by omega) hF sa hxa (by omega) (by omega) hm (by rw [List.length_append]; omega) (fun g2 h2 hm2 => ?_)
              refine f_Model_merge_201 hF ?_
              refine ih (t + 1) (pa + 1) (pb + 1) (out ++ sub (LN la) pa (pa + 1)) g2 _ _ _ _ (by omega) (by omega) (by omega) (by omega) ?_ (fun w q h3 h4 => a3 w q (by omega) h4) (fun w q h3 h4 => b3 w q (by omega) h4) (h1.trans h2) ?_ ?_
              · rw [hFm, mg_same hpst, Option.map_map, hline]
                congr 1
                funext r
                simp [Function.comp]
              · rw [hap, isE_app, Bool.not_and, sub_emp (by omega)]; exact hm2
              · rw [hap, List.length_append]; omega
    by_cases q1 : i < nLn lo
    · have z1 : nI i < nI (nLn lo) := nI_lt q1 (by omega)
      exact f_Model_merge_53 hF (fun _ => find (Or.inl q1) (nLn lo - i) i _ _ _ (by omega) (Nat.le_refl _) (fun z h2 h3 => by omega)) (fun q => absurd z1 q) (fun q => absurd z1 q) (fun q => absurd z1 q)
    · have z1 : ¬ nI i < nI (nLn lo) := nI_nlt (by omega) (by omega)
      by_cases q2 : x < nLn la
      · have z2 : nI x < nI (nLn la) := nI_lt q2 (by omega)
        exact f_Model_merge_53 hF (fun q => absurd q z1) (fun _ _ => find (Or.inr (Or.inl q2)) (nLn lo - i) i _ _ _ (by omega) (Nat.le_refl _) (fun z h2 h3 => by omega)) (fun _ q => absurd z2 q) (fun _ q => absurd z2 q)
      · have z2 : ¬ nI x < nI (nLn la) := nI_nlt (by omega) (by omega)
        by_cases q3 : y < nLn lb
        · have z3 : ¬ nI (nLn lb) ≤ nI y := nI_ge q3 (by omega)
          exact f_Model_merge_53 hF (fun q => absurd q z1) (fun _ q => absurd q z2) (fun _ _ q => absurd q z3) (fun _ _ _ => find (Or.inr (Or.inr q3)) (nLn lo - i) i _ _ _ (by omega) (Nat.le_refl _) (fun z h2 h3 => by omega))
        · have z3 : nI (nLn lb) ≤ nI y := nI_le (by omega) (by omega)
          refine f_Model_merge_53 hF (fun q => absurd q z1) (fun _ q => absurd q z2) (fun _ _ _ => kn out g1 ?_ h1 hm (by have tA := lsp_le (LN la) 0 x; have tB := lsp_le (LN lb) 0 y; rw [lall_LN] at tA tB; omega)) (fun _ _ q => absurd z3 q)
          rw [hFm, mg_end (by omega)]
          unfold rgn
          rw [show i = nLn lo by omega, show x = nLn la by omega, show y = nLn lb by omega, LO, LA, LB, sub_0, sub_0, sub_0, if_pos rfl]
          simp
end MODM
