/-! the reference: links -/
def mkv (a b c e f h : Bool) : Int32 := (((((if a = true then (1 : Int32) else 0) ||| (if b = true then 2 else 0)) ||| (if c = true then 4 else 0)) ||| (if e = true then 8 else 0)) ||| (if f = true then 16 else 0)) ||| (if h = true then 32 else 0)
/-- a mask of pages -/
def MK (B : Nat → Bool) : Int32 := mkv (B 0) (B 1) (B 2) (B 3) (B 4) (B 5)
theorem MK_congr {B B' : Nat → Bool} (h : ∀ y, y < 6 → B y = B' y) : MK B = MK B' := by
  unfold MK
  rw [h 0 (by decide), h 1 (by decide), h 2 (by decide), h 3 (by decide), h 4 (by decide), h 5 (by decide)]
theorem mkv_or : ∀ x : Fin 6, ∀ a b c e f h : Bool, mkv a b c e f h ||| ((1 : Int32) <<< (nI x.val &&& 31)) = mkv (a || decide (0 = x.val)) (b || decide (1 = x.val)) (c || decide (2 = x.val)) (e || decide (3 = x.val)) (f || decide (4 = x.val)) (h || decide (5 = x.val)) := by decide +kernel
theorem MK_or {B : Nat → Bool} {x : Nat} (hx : x < 6) : MK B ||| ((1 : Int32) <<< (nI x &&& 31)) = MK (fun y => B y || decide (y = x)) := mkv_or ⟨x, hx⟩ (B 0) (B 1) (B 2) (B 3) (B 4) (B 5)
theorem mkv_bit : ∀ x : Fin 6, ∀ a b c e f h : Bool, (((mkv a b c e f h >>> (nI x.val &&& 31)) &&& 1) = 1) ↔ (if x.val = 0 then a else if x.val = 1 then b else if x.val = 2 then c else if x.val = 3 then e else if x.val = 4 then f else h) = true := by decide +kernel
theorem MK_bit {B : Nat → Bool} {x : Nat} (hx : x < 6) : ((MK B >>> (nI x &&& 31)) &&& 1) = 1 ↔ B x = true := by
  have h := mkv_bit ⟨x, hx⟩ (B 0) (B 1) (B 2) (B 3) (B 4) (B 5)
  refine h.trans ?_
  have : x = 0 ∨ x = 1 ∨ x = 2 ∨ x = 3 ∨ x = 4 ∨ x = 5 := by omega
  rcases this with rfl | rfl | rfl | rfl | rfl | rfl <;> exact Iff.rfl
theorem MK_0 : MK (fun _ => false) = 0 := by decide
def hkP (w : Ln) (x i : Nat) : Bool := decide (lkd w i ∧ ch w (i + 2) = nI (65 + x))
/-- line w links to page x -/
def hkB (w : Ln) (x : Nat) : Bool := if inc w then decide (ch w 2 = nI (65 + x)) else (List.range w.length).any (hkP w x)
def hkT (l : Tx) (x : Nat) : Bool := (LN l).any (fun w => hkB w x)
def hkM (R : List Rv) (p : Nat) : Int32 := if thB R p = true then MK (hkT (rtx (pg R p) (pg R p).length)) else 0
theorem any_s (P : Nat → Bool) (i : Nat) : (List.range (i + 1)).any P = ((List.range i).any P || P i) := by
  rw [List.range_succ, List.any_append]
  simp
theorem nI_65 (x : Nat) : (65 : Int32) + nI x = nI (65 + x) := nI_add 65 x
/-- where line i begins; behind the last line: behind the text -/
def po (l : Tx) (i : Nat) : Nat := if i < nLn l then sLn l i else l.length + 1
theorem po_0 (l : Tx) : po l 0 = 0 := by
  unfold po
  rw [if_pos (by unfold nLn; omega)]
  exact ls_0 _ _
theorem po_s {l : Tx} {i : Nat} (h : i < nLn l) : po l (i + 1) = eLn l i + 1 := by
  obtain ⟨e1, e2, e3, e4, e5⟩ := eLn_spec h
  unfold po
  have hc : cnt (tf l) l.length + 1 = nLn l := rfl
  by_cases q : i + 1 < nLn l
  · rw [if_pos q, (e4 (by omega)).2.2]
  · rw [if_neg q, e5 (by omega)]
theorem po_lt {l : Tx} {i : Nat} (h : i < nLn l) : po l i = sLn l i ∧ sLn l i ≤ l.length := ⟨if_pos h, sLn_le h⟩
theorem po_n (l : Tx) : po l (nLn l) = l.length + 1 := if_neg (by omega)
theorem fl_m (w : Ln) : fl (-1) w = w := by
  unfold fl
  rw [if_pos (by decide), fil_36]
section MODQ
variable {d : Nat} {Q : Option AV → AH → Prop} {H : AH} {g : Nat → Nat → Int32} {x1 x3 x4 s : Int32} {l : Tx} {σ : SG} {w : Ln} {R : List Rv} {x p : Nat}
theorem lm_lk88 (hd : 2 ≤ d) (hF : Fix H) (h : LW g w) (hni : ¬ inc w)
    (k : ∀ u6 u7, wp d sc_Model_linksOf 50 [vR 58, vI x1, vI (if hkB w x = true then s ||| ((1 : Int32) <<< (nI x &&& 31)) else s), vI x3, vI x4, vI (nI (x + 1)), u6, u7] [] (wi H g) Q) :
    ∀ m i, i + m = w.length → wp d sc_Model_linksOf 88 [vR 58, vI x1, vI s, vI x3, vI x4, vI (nI x), vI (zB ((List.range i).any (hkP w x))), vI (nI i)] [] (wi H g) Q := by
  have hl : hkB w x = (List.range w.length).any (hkP w x) := if_neg hni
  have h40 := h.1
  intro m
  induction m with
  | zero =>
    intro i hi
    have e : i = w.length := by omega
    subst e
    refine f_Model_linksOf_88 hF (fun _ q => ?_) (fun _ q => ?_) (fun q => absurd (by rw [h.2.1]; exact nI_le (by omega) (by omega)) q)
    · rw [zB_0] at q
      rw [hl, if_neg (by rw [q]; decide)] at k
      rw [nI_1]
      exact k _ _
    · rw [zB_0] at q
      rw [hl, if_pos (by simpa using q)] at k
      rw [nI_1]
      exact k _ _
  | succ m ih =>
    intro i hi
    have z : ¬ g 58 15 ≤ nI i := by rw [h.2.1]; exact nI_ge (by omega) (by omega)
    have hs := any_s (hkP w x) i
    refine f_Model_linksOf_88 hF (fun q => absurd q z) (fun q => absurd q z) (fun _ => c_includes hd hF h (fun r hr => ?_))
    rcases hr with ⟨hr, -⟩ | ⟨-, rfl⟩
    · exact absurd hr hni
    refine f_Model_linksOf_101 hF (fun q => absurd rfl q) (fun q => absurd rfl q) (fun _ q => ?_) (fun _ q => ?_)
    · rw [zB_0] at q
      have e : (List.range i).any (hkP w x) = true := by simpa using q
      have h2 := ih (i + 1) (by omega)
      rw [hs, e] at h2
      rw [nI_1]
      exact h2
    · rw [zB_0] at q
      rw [q] at hs ⊢
      rw [Bool.false_or] at hs
      rw [h.2.1]
      refine c_linked (j := i) hd hF h (by omega) (fun r hr => ?_)
      have h2 := ih (i + 1) (by omega)
      rw [hs] at h2
      rcases hr with ⟨hr, rfl⟩ | ⟨hr, rfl⟩
      · have e2 : nI i + 2 = nI (i + 2) := nI_add i 2
        have hlt := hr.1
        have hv : vp_in (nI i + 2) 40 := by rw [e2]; exact vp_in_nI (by omega) (by decide)
        have hg : g 66 (nI i + 2).toNatClampNeg = ch w (i + 2) := by rw [e2, nI_clamp (by omega), h.2.2 _ (by omega)]
        refine f_Model_linksOf_119 hF (fun _ => hv) (fun q2 => absurd q2 (by decide)) (fun _ q2 => ?_) (fun _ q2 => ?_)
        · rw [hg, nI_65] at q2
          rw [show hkP w x i = false from decide_eq_false (fun z => q2 z.2)] at h2
          rw [nI_1]
          exact h2
        · rw [hg, nI_65] at q2
          rw [show hkP w x i = true from decide_eq_true ⟨hr, q2⟩] at h2
          rw [nI_1]
          exact h2
      · refine f_Model_linksOf_119 hF (fun q2 => absurd rfl q2) (fun _ => ?_) (fun q2 => absurd rfl q2) (fun q2 => absurd rfl q2)
        rw [show hkP w x i = false from decide_eq_false (fun z => hr z.1)] at h2
        rw [nI_1]
        exact h2
theorem lm_lk88i (hd : 2 ≤ d) (hF : Fix H) (h : LW g w) (hni : inc w)
    (k : ∀ u6 u7, wp d sc_Model_linksOf 50 [vR 58, vI x1, vI (if hkB w x = true then s ||| ((1 : Int32) <<< (nI x &&& 31)) else s), vI x3, vI x4, vI (nI (x + 1)), u6, u7] [] (wi H g) Q) :
    wp d sc_Model_linksOf 88 [vR 58, vI x1, vI s, vI x3, vI x4, vI (nI x), vI (zB (hkB w x)), vI 0] [] (wi H g) Q := by
  have h40 := h.1
  have hl : 0 < w.length := by have := hni.1; omega
  have z : ¬ g 58 15 ≤ 0 := by rw [h.2.1]; exact nI_ge (a := 0) hl (by omega)
  refine f_Model_linksOf_88 hF (fun q => absurd q z) (fun q => absurd q z) (fun _ => c_includes hd hF h (fun r hr => ?_))
  rcases hr with ⟨-, rfl⟩ | ⟨hr, -⟩
  · refine f_Model_linksOf_101 hF (fun _ q => ?_) (fun _ q => ?_) (fun q => absurd q (by decide)) (fun q => absurd q (by decide))
    · rw [zB_0] at q
      rw [if_neg (by rw [q]; decide)] at k
      rw [nI_1]
      exact k _ _
    · rw [zB_0] at q
      rw [if_pos (by simpa using q)] at k
      rw [nI_1]
      exact k _ _
  · exact absurd hni hr
theorem lm_lk50 (hd : 2 ≤ d) (hF : Fix H) (h : LW g w) {B : Nat → Bool}
    (k : ∀ u5 u6 u7, wp d sc_Model_linksOf 26 [vR 58, vI x1, vI (MK (fun y => B y || hkB w y)), vI x3, vI x4, u5, u6, u7] [] (wi H g) Q) :
    ∀ m x u6 u7, x + m = 6 → wp d sc_Model_linksOf 50 [vR 58, vI x1, vI (MK (fun y => B y || (decide (y < x) && hkB w y))), vI x3, vI x4, vI (nI x), u6, u7] [] (wi H g) Q := by
  have h40 := h.1
  intro m
  induction m with
  | zero =>
    intro x u6 u7 hx
    have e : x = 6 := by omega
    subst e
    refine f_Model_linksOf_50 hF (fun _ => ?_) (fun q => absurd (by decide) q)
    rw [MK_congr (B' := fun y => B y || hkB w y) (fun y hy => by rw [decide_eq_true hy, Bool.true_and])]
    exact k _ _ _
  | succ m ih =>
    intro x u6 u7 hx
    have hx6 : x < 6 := by omega
    have k50 : ∀ u6 u7, wp d sc_Model_linksOf 50 [vR 58, vI x1, vI (if hkB w x = true then MK (fun y => B y || (decide (y < x) && hkB w y)) ||| ((1 : Int32) <<< (nI x &&& 31)) else MK (fun y => B y || (decide (y < x) && hkB w y))), vI x3, vI x4, vI (nI (x + 1)), u6, u7] [] (wi H g) Q := by
      intro u6 u7
      have h2 := ih (x + 1) u6 u7 (by omega)
      have e : MK (fun y => B y || (decide (y < x + 1) && hkB w y)) = if hkB w x = true then MK (fun y => B y || (decide (y < x) && hkB w y)) ||| ((1 : Int32) <<< (nI x &&& 31)) else MK (fun y => B y || (decide (y < x) && hkB w y)) := by
        split
        · rename_i q
          rw [MK_or hx6]
          refine MK_congr (fun y _ => ?_)
          by_cases e : y = x
          · subst e
            simp [q]
          · rw [show decide (y = x) = false from decide_eq_false e, Bool.or_false, show decide (y < x + 1) = decide (y < x) from decide_eq_decide.mpr (by omega)]
        · rename_i q
          refine MK_congr (fun y _ => ?_)
          by_cases e : y = x
          · subst e
            have q2 : hkB w y = false := by simpa using q
            simp [q2]
          · rw [show decide (y < x + 1) = decide (y < x) from decide_eq_decide.mpr (by omega)]
      rw [e] at h2
      exact h2
    refine f_Model_linksOf_50 hF (fun q => absurd q (by rw [show (6 : Int32) = nI 6 from rfl]; exact nI_ge hx6 (by decide))) (fun _ => c_includes hd hF h (fun r hr => ?_))
    rcases hr with ⟨hr, rfl⟩ | ⟨hr, rfl⟩
    · have hlen : 2 < w.length := by have := hr.1; omega
      refine f_Model_linksOf_61 hF (fun q => absurd q (by decide)) (fun _ q => ?_) (fun _ q => ?_)
      · rw [h.2.2 2 hlen, nI_65] at q
        have e : hkB w x = false := by unfold hkB; rw [if_pos hr]; exact decide_eq_false q
        have h2 := lm_lk88i hd hF h hr k50
        rw [e] at h2
        exact h2
      · rw [h.2.2 2 hlen, nI_65] at q
        have e : hkB w x = true := by unfold hkB; rw [if_pos hr]; exact decide_eq_true q
        have h2 := lm_lk88i hd hF h hr k50
        rw [e] at h2
        exact h2
    · refine f_Model_linksOf_61 hF (fun _ => ?_) (fun q => absurd rfl q) (fun q => absurd rfl q)
      exact lm_lk88 hd hF h hr k50 w.length 0 (by omega)
theorem lm_lk26 {i : Nat} (hd : 2 ≤ d) (hF : Fix H) (hi : i ≤ 25) (k : ∀ g', NL g g' → Q (some (vI (MK (hkT l)))) (wi H g')) :
    ∀ m j g1 u5 u6 u7, j + m = nLn l → NL g g1 → ST g i l → wp d sc_Model_linksOf 26 [vR 58, vI x1, vI (MK (fun y => ((LN l).take j).any (fun w => hkB w y))), vI (nI i), vI (nI (po l j)), u5, u6, u7] [] (wi H g1) Q := by
  intro m
  induction m with
  | zero =>
    intro j g1 u5 u6 u7 hj hn hst
    have e : j = nLn l := by omega
    have h60 : g1 60 (nI i).toNatClampNeg = nI l.length := by rw [nI_clamp (by omega), hn.1 60 (by decide) (by decide)]; exact hst.1
    have hle := hst.2.1
    refine f_Model_linksOf_26 hF (vp_in_nI (by omega) (by decide)) (fun _ => ?_) (fun q => absurd (by rw [h60, e, po_n]; exact nI_lt (by omega) (by omega)) q)
    rw [e, ← LN_len, List.take_length]
    exact k g1 hn
  | succ m ih =>
    intro j g1 u5 u6 u7 hj hn hst
    have hlt : j < nLn l := by omega
    obtain ⟨p1, p2⟩ := po_lt hlt
    have hle := hst.2.1
    have h60 : g1 60 (nI i).toNatClampNeg = nI l.length := by rw [nI_clamp (by omega), hn.1 60 (by decide) (by decide)]; exact hst.1
    refine f_Model_linksOf_26 hF (vp_in_nI (by omega) (by decide)) (fun q => absurd q (by rw [h60, p1]; exact nI_nlt p2 (by omega))) (fun _ => ?_)
    have hst1 : ST g1 i l := ⟨by rw [hn.1 60 (by decide) (by decide)]; exact hst.1, hle, fun q hq => by rw [hn.1 59 (by decide) (by decide)]; exact hst.2.2 q hq⟩
    rw [p1]
    refine c_look (by omega) hF hi hst1 hlt (fun g2 hn2 hw => ?_)
    rw [fl_m] at hw
    refine f_Model_linksOf_45 hF ?_
    rw [← po_s hlt]
    have h2 := lm_lk50 (x1 := x1) (x3 := nI i) (x4 := nI (po l (j + 1))) (Q := Q) (B := fun y => ((LN l).take j).any (fun w => hkB w y)) hd hF hw (fun u5 u6 u7 => ?_) 6 0 u6 u7 rfl
    · rw [MK_congr (B' := fun y => ((LN l).take j).any (fun w => hkB w y)) (fun y _ => by simp)] at h2
      exact h2
    · have h3 := ih (j + 1) g2 u5 u6 u7 (by omega) (hn.trans hn2) hst
      rw [MK_congr (B' := fun y => ((LN l).take j).any (fun w => hkB w y) || hkB (lnI l j) y) (fun y _ => by
        rw [List.take_add_one, LN_get hlt, List.any_append]
        simp [lnI])] at h3
      exact h3
theorem c_linksOf (hd : 3 ≤ d) (hF : Fix H) (h : RI g σ) (hp : p < 6) (k : ∀ g', NL g g' → Q (some (vI (hkM σ.2.2.1 p))) (wi H g')) : cwp d 157 [vR 58, vI (nI p)] (wi H g) Q := by
  have hR := h.rr
  have h24 := hR.1
  refine e_Model_linksOf (by omega) (hF.c 58 31 rfl) (f_Model_linksOf_0 hF (c_isThere (by omega) hF hR (fun r hr => ?_)))
  rw [← thX_iff, show thX σ.2.2.1 (nI p) = thB σ.2.2.1 p by unfold thX; rw [pgN_some hp]] at hr
  rcases hr with ⟨ht, rfl⟩ | ⟨ht, rfl⟩
  · refine f_Model_linksOf_7 hF (fun _ => c_count (by omega) hF hR hp ?_) (fun q => absurd q (by decide))
    have hpl := pg_le σ.2.2.1 p
    refine f_Model_linksOf_19 hF (c_find (by omega) hF hR hp (by omega) (fun r hr => ?_))
    rcases hr with ⟨i, e, rfl, b1, b2, b3⟩ | ⟨rfl, hr⟩
    · have hi : i < σ.2.2.1.length := (List.getElem?_eq_some_iff.mp b1).1
      obtain ⟨a1, a2, a3, a4⟩ := hR.2.2 i _ b1
      refine f_Model_linksOf_22 hF ?_
      have et : rtx (pg σ.2.2.1 p) (pg σ.2.2.1 p).length = e.2 := by
        unfold rtx
        rw [if_neg (by omega), List.getD_eq_getElem?_getD, b3]
        rfl
      have h2 := lm_lk26 (d := d - 1) (x1 := nI p) (l := e.2) (Q := Q) (g := g) (i := i) (by omega) hF (by omega) (fun g' hn => ?_) (nLn e.2) 0 g vU vU vU (by omega) NL.rf (a3.st (by omega))
      · rw [po_0, MK_congr (B' := fun _ => false) (fun z _ => by simp), MK_0] at h2
        exact h2
      · have h3 := k g' hn
        unfold hkM at h3
        rw [if_pos ht, et] at h3
        exact h3
    · obtain ⟨e, he, -⟩ := thB_iff.mp ht
      have : pg σ.2.2.1 p = [] := List.length_eq_zero_iff.mp (by omega)
      rw [this] at he
      cases he
  · refine f_Model_linksOf_7 hF (fun q => absurd rfl q) (fun _ => ?_)
    have h3 := k g NL.rf
    unfold hkM at h3
    rw [if_neg ht] at h3
    exact h3
def sp_links (σ : SG) (x : Int32) : Int32 := if σ.2.2.2.2.2.1 = true then -1 else match pgN x with
  | none => -1
  | some p => hkM σ.2.2.1 p
theorem r_links {x : Int32} (hd : 4 ≤ d) (hF : Fix H) (h : RI g σ) (k : ∀ g', RI g' σ → Q (some (vI (sp_links σ x))) (wi H g')) : cwp d 158 [vR 58, vI x] (wi H g) Q := by
  refine e_Model_links (by omega) (hF.c 58 31 rfl) (f_Model_links_0 hF (fun q => ?_) (fun q => ?_))
  · rw [h.dn0] at q
    unfold sp_links at k
    rw [if_pos (by simpa using q)] at k
    exact k g h
  · have hdw : ¬ σ.2.2.2.2.2.1 = true := h.dn0.mp q
    unfold sp_links at k
    rw [if_neg hdw] at k
    refine c_isPage (by omega) (fun p hp e => ?_) (fun hno => ?_)
    · subst e
      rw [pgN_some hp] at k
      refine f_Model_links_11 hF (fun _ => c_linksOf (by omega) hF h hp (fun g' hn => ?_)) (fun q1 => absurd q1 (by decide))
      exact f_Model_links_23 hF (k g' (h.nl hn))
    · rw [pgN_none hno] at k
      exact f_Model_links_11 hF (fun q1 => absurd rfl q1) (fun _ => k g h)
/-- the bit of page p in a page's links -/
def bkB (R : List Rv) (p y : Nat) : Bool := thB R y && hkT (rtx (pg R y) (pg R y).length) p
theorem hkM_eq (R : List Rv) (y : Nat) : hkM R y = MK (fun x => thB R y && hkT (rtx (pg R y) (pg R y).length) x) := by
  unfold hkM
  cases thB R y
  · exact MK_0.symm
  · exact MK_congr (fun y _ => by simp)
def sp_back (σ : SG) (x : Int32) : Int32 := if σ.2.2.2.2.2.1 = true then -1 else match pgN x with
  | none => -1
  | some p => MK (bkB σ.2.2.1 p)
theorem lm_back (hd : 3 ≤ d) (hF : Fix H) (hp : p < 6) (h : RI g σ) (k : ∀ g', RI g' σ → Q (some (vI (MK (bkB σ.2.2.1 p)))) (wi H g')) :
    ∀ m y g1, y + m = 6 → NL g g1 → wp d sc_Model_backlinks 20 [vR 58, vI (nI p), vI (MK (fun z => decide (z < y) && bkB σ.2.2.1 p z)), vI (nI y)] [] (wi H g1) Q := by
  intro m
  induction m with
  | zero =>
    intro y g1 hy hn
    have e : y = 6 := by omega
    subst e
    refine f_Model_backlinks_20 hF (fun _ => ?_) (fun q => absurd (by decide) q)
    rw [MK_congr (B' := bkB σ.2.2.1 p) (fun y hy => by rw [decide_eq_true hy, Bool.true_and])]
    exact k g1 (h.nl hn)
  | succ m ih =>
    intro y g1 hy hn
    have hy6 : y < 6 := by omega
    refine f_Model_backlinks_20 hF (fun q => absurd q (by rw [show (6 : Int32) = nI 6 from rfl]; exact nI_ge hy6 (by decide))) (fun _ => c_linksOf hd hF (h.nl hn) hy6 (fun g2 hn2 => ?_))
    have h2 := ih (y + 1) g2 (by omega) (hn.trans hn2)
    rw [hkM_eq]
    refine f_Model_backlinks_31 hF (fun q => ?_) (fun q => ?_)
    · rw [MK_bit hp] at q
      rw [MK_congr (B' := fun z => decide (z < y) && bkB σ.2.2.1 p z) (fun z _ => by
        by_cases e : z = y
        · subst e
          have q2 : bkB σ.2.2.1 p z = false := by simpa [bkB] using q
          simp [q2]
        · rw [show decide (z < y + 1) = decide (z < y) from decide_eq_decide.mpr (by omega)])] at h2
      rw [nI_1]
      exact h2
    · rw [MK_bit hp] at q
      rw [nI_1, MK_or hy6]
      rw [MK_congr (B' := fun z => (decide (z < y) && bkB σ.2.2.1 p z) || decide (z = y)) (fun z _ => by
        by_cases e : z = y
        · subst e
          have q2 : bkB σ.2.2.1 p z = true := q
          simp [q2]
        · rw [show decide (z = y) = false from decide_eq_false e, Bool.or_false, show decide (z < y + 1) = decide (z < y) from decide_eq_decide.mpr (by omega)])] at h2
      exact h2
theorem r_back {x : Int32} (hd : 4 ≤ d) (hF : Fix H) (h : RI g σ) (k : ∀ g', RI g' σ → Q (some (vI (sp_back σ x))) (wi H g')) : cwp d 159 [vR 58, vI x] (wi H g) Q := by
  refine e_Model_backlinks (by omega) (hF.c 58 31 rfl) (f_Model_backlinks_0 hF (fun q => ?_) (fun q => ?_))
  · rw [h.dn0] at q
    unfold sp_back at k
    rw [if_pos (by simpa using q)] at k
    exact k g h
  · have hdw : ¬ σ.2.2.2.2.2.1 = true := h.dn0.mp q
    unfold sp_back at k
    rw [if_neg hdw] at k
    refine c_isPage (by omega) (fun p hp e => ?_) (fun hno => ?_)
    · subst e
      rw [pgN_some hp] at k
      refine f_Model_backlinks_11 hF (fun _ => ?_) (fun q1 => absurd q1 (by decide))
      have h2 := lm_back (d := d - 1) (by omega) hF hp h k 6 0 g (by omega) NL.rf
      rw [MK_congr (B' := fun _ => false) (fun z _ => by simp), MK_0] at h2
      exact h2
    · rw [pgN_none hno] at k
      exact f_Model_backlinks_11 hF (fun q1 => absurd rfl q1) (fun _ => k g h)
end MODQ
