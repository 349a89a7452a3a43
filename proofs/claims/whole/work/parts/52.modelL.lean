/-! the reference: merge -/
theorem em_len : ∀ (X : List Ln) (b : Bool), (em b X).length ≤ lall X := by
  intro X
  induction X with
  | nil => intro b; simp [em]
  | cons x X ih =>
    intro b
    have := ih true
    unfold lall at this ⊢
    simp only [em, List.length_append, List.map_cons, List.sum_cons]
    cases b <;> simp <;> omega
theorem lsp_add {X : List Ln} {j p : Nat} (hjp : j ≤ p) : ∀ (m : Nat), p + m ≤ X.length → lsp X j (p + m) = lsp X j p + lsp X p (p + m) := by
  intro m
  induction m with
  | zero => intro _; rw [Nat.add_zero, lsp_0]; rfl
  | succ m ih =>
    intro h
    have hq : X[p + m]? = some X[p + m] := List.getElem?_eq_getElem (by omega)
    rw [show p + (m + 1) = p + m + 1 by omega, lsp_s (by omega) hq, lsp_s (by omega) hq, ih (by omega)]
    omega
theorem lsp_add2 {X : List Ln} {j p q : Nat} (hjp : j ≤ p) (hpq : p ≤ q) (hq : q ≤ X.length) : lsp X j q = lsp X j p + lsp X p q := by
  have := lsp_add (X := X) hjp (q - p) (by omega)
  rw [show p + (q - p) = q by omega] at this
  exact this
theorem lsp_LN (l : Tx) : ∀ k, k < nLn l → lsp (LN l) 0 k = sLn l k := by
  intro k
  induction k with
  | zero => intro _; rw [lsp_0]; unfold sLn; rw [ls_0]
  | succ k ih =>
    intro h
    have hk : k < nLn l := by omega
    obtain ⟨e1, e2, e3, e4, e5⟩ := eLn_spec hk
    have hll : (lnx (tf l) l.length k).length = eLn l k - sLn l k := lnx_len _ _ _
    have hc : cnt (tf l) l.length + 1 = nLn l := rfl
    rw [lsp_s (Nat.zero_le _) (lnx_LN hk), ih hk, hll, (e4 (by omega)).2.2]
    omega
theorem lall_LN (l : Tx) : lall (LN l) = l.length + 1 := by
  have hc : cnt (tf l) l.length + 1 = nLn l := rfl
  have h1 : lall (LN l) = lsp (LN l) 0 (nLn l) := by
    unfold lall lsp
    rw [List.drop_zero, Nat.sub_zero, List.take_of_length_le (by rw [LN_len]; exact Nat.le_refl _)]
  have hk : cnt (tf l) l.length < nLn l := by omega
  obtain ⟨e1, e2, e3, e4, e5⟩ := eLn_spec hk
  have hll : (lnx (tf l) l.length (cnt (tf l) l.length)).length = eLn l (cnt (tf l) l.length) - sLn l (cnt (tf l) l.length) := lnx_len _ _ _
  rw [h1, ← hc, lsp_s (Nat.zero_le _) (lnx_LN hk), lsp_LN l _ hk, hll, e5 rfl]
  have := e5 rfl
  omega
theorem mg_same {O A B : List Ln} {ps : List (Option Nat × Option Nat)} {i x y : Nat} (h : ps[i]? = some (some x, some y)) : mg O A B (ps.drop i) i i x y = (mg O A B (ps.drop (i + 1)) (i + 1) (i + 1) (x + 1) (y + 1)).map (fun r => O.getD i [] :: r) := by
  rw [mg_both h]
  have : rgn O A B i i x x y y = some [] := by unfold rgn; rw [sub_0, sub_0, sub_0, if_pos rfl]
  rw [this]
  dsimp only
  cases mg O A B (ps.drop (i + 1)) (i + 1) (i + 1) (x + 1) (y + 1) <;> rfl
theorem mg_nots {O A B : List Ln} {ps : List (Option Nat × Option Nat)} {o a b : Nat} : ∀ (m k : Nat), k + m ≤ ps.length → (∀ z, k ≤ z → z < k + m → ∀ q, ps[z]? = some q → q.1 = none ∨ q.2 = none) → mg O A B (ps.drop k) k o a b = mg O A B (ps.drop (k + m)) (k + m) o a b := by
  intro m
  induction m with
  | zero => intro k _ _; rfl
  | succ m ih =>
    intro k hk hq
    have hg : ps[k]? = some ps[k] := List.getElem?_eq_getElem (by omega)
    rw [mg_not hg (hq k (Nat.le_refl _) (by omega) _ hg), ih (k + 1) (by omega) (fun z h1 h2 => hq z (by omega) (by omega)), show k + 1 + m = k + (m + 1) by omega]
theorem mg_reg {O A B : List Ln} {ps : List (Option Nat × Option Nat)} {i t x y pa pb : Nat} (hit : i ≤ t) (hn : ∀ z, i ≤ z → z < t → ∀ q, ps[z]? = some q → q.1 = none ∨ q.2 = none) (h : ps[t]? = some (some pa, some pb)) : mg O A B (ps.drop i) i i x y = match rgn O A B i t x pa y pb with
    | none => none
    | some reg => (mg O A B (ps.drop t) t t pa pb).map (fun r => reg ++ r) := by
  have ht : t < ps.length := (List.getElem?_eq_some_iff.mp h).1
  have := mg_nots (O := O) (A := A) (B := B) (ps := ps) (o := i) (a := x) (b := y) (t - i) i (by omega) (fun z h1 h2 => hn z h1 (by omega))
  rw [show i + (t - i) = t by omega] at this
  rw [this, mg_both h, mg_same h]
  cases rgn O A B i t x pa y pb with
  | none => rfl
  | some reg =>
    dsimp only
    cases mg O A B (ps.drop (t + 1)) (t + 1) (t + 1) (pa + 1) (pb + 1) <;> rfl
theorem mg_regN {O A B : List Ln} {ps : List (Option Nat × Option Nat)} {i x y : Nat} (hi : i ≤ ps.length) (hn : ∀ z, i ≤ z → ∀ q, ps[z]? = some q → q.1 = none ∨ q.2 = none) : mg O A B (ps.drop i) i i x y = rgn O A B i O.length x A.length y B.length := by
  have := mg_nots (O := O) (A := A) (B := B) (ps := ps) (o := i) (a := x) (b := y) (ps.length - i) i (by omega) (fun z h1 h2 => hn z h1)
  rw [this, mg_end (by omega)]
theorem isE_app {α : Type} (X Y : List α) : (X ++ Y).isEmpty = (X.isEmpty && Y.isEmpty) := by cases X <;> rfl
section MODL
variable {d : Nat} {Q : Option AV → AH → Prop} {H : AH} {g : Nat → Nat → Int32} {xo xa : Int32} {lo la lb : Tx}
theorem sub_emp {X : List Ln} {a b : Nat} (hb : b ≤ X.length) : (!(sub X a b).isEmpty) = decide (a < b) := by
  have h := sub_len (X := X) (a := a) hb
  by_cases e : a < b
  · rw [decide_eq_true e]
    cases hs : sub X a b with
    | nil => rw [hs] at h; simp at h; omega
    | cons z zs => rfl
  · rw [decide_eq_false e]
    cases hs : sub X a b with
    | nil => rfl
    | cons z zs => rw [hs] at h; simp at h; omega
/-- a part of the three texts -/
theorem lm_region {i t x x2 y y2 : Nat} {out : List Ln} (hd : 5 ≤ d) (hF : Fix H) (ho : SL g xo lo) (ha : SL g xa la) (hb : ST g 24 lb) (hxo : xo ≠ nI 26) (hxa : xa ≠ nI 26)
    (hit : i ≤ t) (ht : t ≤ nLn lo) (hxx : x ≤ x2) (hx2 : x2 ≤ nLn la) (hyy : y ≤ y2) (hy2 : y2 ≤ nLn lb) (g1 : Nat → Nat → Int32) (h1 : O26 g g1) (hm : MB g1 (!out.isEmpty) (em false out)) (hl : (em false out).length ≤ lsp (LN la) 0 x + lsp (LN lb) 0 y)
    (kc : rgn (LN lo) (LN la) (LN lb) i t x x2 y y2 = none → ∀ g', O26 g g' → Q (some (vI 0)) (wi H g'))
    (kn : ∀ reg g2, rgn (LN lo) (LN la) (LN lb) i t x x2 y y2 = some reg → O26 g g2 → MB g2 (!(out ++ reg).isEmpty) (em false (out ++ reg)) → (em false (out ++ reg)).length ≤ lsp (LN la) 0 x2 + lsp (LN lb) 0 y2 → wp d sc_Model_merge 53 [vR 58, vI xo, vI xa, vI (nI t), vI (nI x2), vI (nI y2), vI (nI (nLn lo)), vI (nI (nLn la)), vI (nI (nLn lb)), vI (nI t), vI (nI x2), vI (nI y2), vI 0] [] (wi H g2) Q) :
    cwp d 124 [vR 58, vI xa, vI (nI x), vI (nI x2), vI xo, vI (nI i), vI (nI t)] (wi H g1) (fun r1 H1 => wp d sc_Model_merge 217 [vR 58, vI xo, vI xa, vI (nI i), vI (nI x), vI (nI y), vI (nI (nLn lo)), vI (nI (nLn la)), vI (nI (nLn lb)), vI (nI t), vI (nI x2), vI (nI y2), vI 0] (r1.toList ++ []) H1 Q) := by
  have so := ho.o26 h1 hxo
  have sa := ha.o26 h1 hxa
  have sb := (hb.o26 h1 (by decide)).sl (by decide)
  have hla := ha.le
  have hlb := hb.2.1
  have LA := LN_len la
  have LB := LN_len lb
  have lA := lsp_add2 (X := LN la) (Nat.zero_le x) hxx (by omega)
  have lB := lsp_add2 (X := LN lb) (Nat.zero_le y) hyy (by omega)
  have tA := lsp_le (LN la) 0 x2
  have tB := lsp_le (LN lb) 0 y2
  rw [lall_LN] at tA tB
  -- lines a .. are put out
  have putA : rgn (LN lo) (LN la) (LN lb) i t x x2 y y2 = some (sub (LN la) x x2) → cwp d 139 [vR 58, vI xa, vI (nI x), vI (nI x2)] (wi H g1) (fun r1 H1 => wp d sc_Model_merge 277 [vR 58, vI xo, vI xa, vI (nI i), vI (nI x), vI (nI y), vI (nI (nLn lo)), vI (nI (nLn la)), vI (nI (nLn lb)), vI (nI t), vI (nI x2), vI (nI y2), vI 0] (r1.toList ++ []) H1 Q) := by
    intro hr
    have hel := em_len (sub (LN la) x x2) (!out.isEmpty)
    have hsp : lall (sub (LN la) x x2) = lsp (LN la) x x2 := rfl
    have hap : em false (out ++ sub (LN la) x x2) = em false out ++ em (!out.isEmpty) (sub (LN la) x x2) := by rw [em_app, Bool.false_or]
    refine c_emit (by omega) hF sa hxa hxx hx2 hm (by rw [List.length_append]; omega) (fun g2 h2 hm2 => ?_)
    refine f_Model_merge_277 hF (kn _ g2 hr (h1.trans h2) ?_ ?_)
    · rw [hap, isE_app, Bool.not_and, sub_emp (by omega)]; exact hm2
    · rw [hap, List.length_append]; omega
  refine c_alike (by omega) hF sa so hxx hx2 hit ht (fun r hr => ?_)
  refine f_Model_merge_217 hF (fun z => ?_) (fun z => ?_)
  · have hne : ¬ sub (LN la) x x2 = sub (LN lo) i t := by
      rcases hr with ⟨-, hr⟩ | ⟨hr, -⟩
      · rw [hr] at z; exact absurd z (by decide)
      · exact hr
    refine c_alike (x := nI 24) (by omega) hF sb so hyy hy2 hit ht (fun r2 hr2 => ?_)
    refine f_Model_merge_247 hF (fun z2 => ?_) (fun z2 => ?_)
    · have he : sub (LN lb) y y2 = sub (LN lo) i t := by
        rcases hr2 with ⟨hr2, -⟩ | ⟨-, hr2⟩
        · exact hr2
        · exact absurd hr2 z2
      exact putA (by unfold rgn; rw [if_neg hne, if_pos (Or.inl he)])
    · have hne2 : ¬ sub (LN lb) y y2 = sub (LN lo) i t := by
        rcases hr2 with ⟨-, hr2⟩ | ⟨hr2, -⟩
        · rw [hr2] at z2; exact absurd z2 (by decide)
        · exact hr2
      refine c_alike (y := nI 24) (by omega) hF sa sb hxx hx2 hyy hy2 (fun r3 hr3 => ?_)
      refine f_Model_merge_265 hF (fun z3 => ?_) (fun z3 => ?_)
      · have hne3 : ¬ sub (LN la) x x2 = sub (LN lb) y y2 := by
          rcases hr3 with ⟨-, hr3⟩ | ⟨hr3, -⟩
          · rw [hr3] at z3; exact absurd z3 (by decide)
          · exact hr3
        exact kc (by unfold rgn; rw [if_neg hne, if_neg (by rintro (q | q); exact hne2 q; exact hne3 q)]) g1 h1
      · have he : sub (LN la) x x2 = sub (LN lb) y y2 := by
          rcases hr3 with ⟨hr3, -⟩ | ⟨-, hr3⟩
          · exact hr3
          · exact absurd hr3 z3
        exact putA (by unfold rgn; rw [if_neg hne, if_pos (Or.inr he)])
  · have he : sub (LN la) x x2 = sub (LN lo) i t := by
      rcases hr with ⟨hr, -⟩ | ⟨-, hr⟩
      · exact hr
      · exact absurd hr z
    have hrg : rgn (LN lo) (LN la) (LN lb) i t x x2 y y2 = some (sub (LN lb) y y2) := by unfold rgn; rw [if_pos he]
    have hel := em_len (sub (LN lb) y y2) (!out.isEmpty)
    have hsp : lall (sub (LN lb) y y2) = lsp (LN lb) y y2 := rfl
    have hap : em false (out ++ sub (LN lb) y y2) = em false out ++ em (!out.isEmpty) (sub (LN lb) y y2) := by rw [em_app, Bool.false_or]
    refine c_emit (x := nI 24) (by omega) hF sb (by decide) hyy hy2 hm (by rw [List.length_append]; omega) (fun g2 h2 hm2 => ?_)
    refine f_Model_merge_230 hF (kn _ g2 hrg (h1.trans h2) ?_ ?_)
    · rw [hap, isE_app, Bool.not_and, sub_emp (by omega)]; exact hm2
    · rw [hap, List.length_append]; omega
end MODL
