/-! the small heap in the real one. Wanted ahead: K0, nS, fI, fN (tables), vwCl (names) -/
abbrev SE : Type := va_G × (ClassId × ClassId × ClassId) × (Nat → ClassId) × (Nat × Nat) × (Nat → Nat)
def eD (E : SE) : va_G := E.1
def eI (E : SE) : ClassId := E.2.1.1
def eC (E : SE) : ClassId := E.2.1.2.1
def eZ (E : SE) : ClassId := E.2.1.2.2
def eR (E : SE) (c : Nat) : ClassId := E.2.2.1 c
def eS (E : SE) : Nat := E.2.2.2.1.1
def eB (E : SE) : Nat := E.2.2.2.1.2
def eK (E : SE) (j : Nat) : Nat := E.2.2.2.2 j
def ad (E : SE) (a : Nat) : Nat := if a = 1 then eB E else if a < K0 then eK E (a - 2) else eS E + (a - K0)
def rfh (E : SE) (r : Nat) : Option Nat := if r = 0 then none else some (ad E r)
def conc (E : SE) (v : AV) : Value := match v with
  | .inl x => .int x
  | .inr (some r) => va_rf (rfh E r)
  | .inr none => .null
theorem conc_I (E : SE) (x : Int32) : conc E (vI x) = .int x := rfl
theorem conc_0 (E : SE) : conc E (vR 0) = .null := by simp [conc, rfh, va_rf]
theorem conc_R (E : SE) {a : Nat} (h : a ≠ 0) : conc E (vR a) = .ref (ad E a) := by simp [conc, rfh, va_rf, h]
theorem conc_cat (E : SE) (v : AV) : (conc E v).category = 1 := by
  rcases v with x | a
  · rfl
  · cases a with
    | none => rfl
    | some r =>
      by_cases h : r = 0
      · subst h; rw [conc_0]; rfl
      · rw [conc_R E h]; rfl
theorem ad_new (E : SE) {a : Nat} (h : K0 ≤ a) : ad E a = eS E + (a - K0) := by
  have hk : 2 ≤ K0 := by decide
  unfold ad
  rw [if_neg (by omega), if_neg (by omega)]
def flds (E : SE) (H : AH) (c a : Nat) : List Value := (List.range (fN c)).map (fun k => if fI c k = true then Value.int (gi H a k) else va_rf (rfh E (gr H a k)))
theorem flds_len (E : SE) (H : AH) (c a : Nat) : (flds E H c a).length = fN c := by simp [flds]
theorem flds_get (E : SE) (H : AH) {c a k : Nat} (hk : k < fN c) : (flds E H c a)[k]? = some (if fI c k = true then Value.int (gi H a k) else va_rf (rfh E (gr H a k))) := by simp [flds, hk]
def cellE (E : SE) (H : AH) (a : Nat) : va_E :=
  if (kd H a).1 = 1 then .inl (eI E, (kd H a).2, .inl (gi H a))
  else if (kd H a).1 = 2 then .inl (eC E, (kd H a).2, .inl (gi H a))
  else if (kd H a).1 = 3 then .inl (eZ E, (kd H a).2, .inl (gi H a))
  else if 60 ≤ (kd H a).1 then .inl (eR E ((kd H a).1 - 60), (kd H a).2, .inr (.inr (.inr (.inr (fun j => rfh E (gr H a j))))))
  else .inr ((kd H a).1 - 20, flds E H ((kd H a).1 - 20) a)
theorem cellE_1 (E : SE) {H : AH} {a : Nat} (h : (kd H a).1 = 1) : cellE E H a = .inl (eI E, (kd H a).2, .inl (gi H a)) := by unfold cellE; rw [if_pos h]
theorem cellE_2 (E : SE) {H : AH} {a : Nat} (h : (kd H a).1 = 2) : cellE E H a = .inl (eC E, (kd H a).2, .inl (gi H a)) := by unfold cellE; rw [if_neg (by omega), if_pos h]
theorem cellE_3 (E : SE) {H : AH} {a : Nat} (h : (kd H a).1 = 3) : cellE E H a = .inl (eZ E, (kd H a).2, .inl (gi H a)) := by unfold cellE; rw [if_neg (by omega), if_neg (by omega), if_pos h]
theorem cellE_q (E : SE) {H : AH} {a c : Nat} (h : (kd H a).1 = 60 + c) : cellE E H a = .inl (eR E c, (kd H a).2, .inr (.inr (.inr (.inr (fun j => rfh E (gr H a j)))))) := by
  unfold cellE
  rw [if_neg (by omega), if_neg (by omega), if_neg (by omega), if_pos (by omega), show (kd H a).1 - 60 = c by omega]
theorem cellE_o (E : SE) {H : AH} {a c : Nat} (h : (kd H a).1 = 20 + c) (hc : c < 40) : cellE E H a = .inr (c, flds E H c a) := by
  unfold cellE
  rw [if_neg (by omega), if_neg (by omega), if_neg (by omega), if_neg (by omega), show (kd H a).1 - 20 = c by omega]
theorem cellE_congr (E : SE) {H H' : AH} {a : Nat} (hk : kd H' a = kd H a) (hi : gi H' a = gi H a) (hr : gr H' a = gr H a) : cellE E H' a = cellE E H a := by
  unfold cellE flds
  rw [hk, hi, hr]
/-- the kinds of the handles below K0, of made ones, of those to come -/
def okK (L : Nat) (H : AH) : Prop :=
  K0 ≤ nx H ∧ (kd H 0).1 = 0 ∧ kd H 1 = (4, L) ∧ (∀ j, j < nS → kd H (2 + j) = (5, j)) ∧
  (∀ a, K0 ≤ a → a < nx H → (kd H a).1 = 1 ∨ (kd H a).1 = 2 ∨ (kd H a).1 = 3 ∨ (20 ≤ (kd H a).1 ∧ (kd H a).1 < 100)) ∧ ∀ a, nx H ≤ a → (kd H a).1 = 0
theorem okK.made {L : Nat} {H : AH} (h : okK L H) {a : Nat} (h0 : (kd H a).1 ≠ 0) (h4 : (kd H a).1 ≠ 4) (h5 : (kd H a).1 ≠ 5) : K0 ≤ a ∧ a < nx H := by
  obtain ⟨k0, k1, k2, k3, k4, k5⟩ := h
  have hk : K0 = 2 + nS := by decide
  refine ⟨?_, ?_⟩
  · rcases Nat.lt_or_ge a K0 with q | q
    · exfalso
      rcases Nat.lt_or_ge a 2 with q2 | q2
      · rcases Nat.lt_or_ge a 1 with q3 | q3
        · have : a = 0 := by omega
          subst this; exact h0 k1
        · have : a = 1 := by omega
          subst this; rw [k2] at h4; exact h4 rfl
      · have h6 := k3 (a - 2) (by omega)
        rw [show 2 + (a - 2) = a by omega] at h6
        rw [h6] at h5; exact h5 rfl
    · exact q
  · rcases Nat.lt_or_ge a (nx H) with q | q
    · exact q
    · exact absurd (k5 a q) h0
def Sim (E : SE) (G : Heap) (L : Nat) (xs : Nat → Int32) (H : AH) (Hr : Heap) : Prop :=
  (∀ a, K0 ≤ a → a < nx H → va_at (eD E) vwCl (ad E a, cellE E H a) Hr) ∧ Hr.size = eS E + (nx H - K0) ∧ (∀ q : Nat, q < eS E → Hr[q]? = G[q]?) ∧
  okK L H ∧ (∀ j, j < L → gi H 1 j = xs j) ∧ ∀ a, (kd H a).1 = 2 → ∀ j, fits .char (.int (gi H a j)) = true
section SMS
variable {E : SE} {G : Heap} {L : Nat} {xs : Nat → Int32}
/-- one cell has changed -/
theorem Sim.upd {H H' : AH} {Hr Hr' : Heap} {a : Nat} (h : Sim E G L xs H Hr) (ha : K0 ≤ a) (ha2 : a < nx H) (hn : nx H' = nx H) (hk : ∀ b, kd H' b = kd H b)
    (hg : ∀ b, b ≠ a → gi H' b = gi H b ∧ gr H' b = gr H b) (hc : (kd H a).1 = 2 → ∀ j, fits .char (.int (gi H' a j)) = true)
    (hat : va_at (eD E) vwCl (ad E a, cellE E H' a) Hr') (hz : Hr'.size = Hr.size) (ho : ∀ q : Nat, q ≠ ad E a → Hr'[q]? = Hr[q]?) : Sim E G L xs H' Hr' := by
  obtain ⟨s1, s2, s3, ⟨k0, k1, k2, k3, k4, k5⟩, s5, s6⟩ := h
  have h1 : (2 : Nat) ≤ K0 := by decide
  refine ⟨fun b hb hb2 => ?_, by rw [hz, hn]; exact s2, fun q hq => ?_, ⟨by rw [hn]; exact k0, by rw [hk]; exact k1, by rw [hk]; exact k2, fun j hj => by rw [hk]; exact k3 j hj, fun b hb hb2 => by rw [hk]; exact k4 b hb (by rw [← hn]; exact hb2), fun b hb => by rw [hk]; exact k5 b (by rw [← hn]; exact hb)⟩, fun j hj => ?_, fun b hb j => ?_⟩
  · by_cases e : b = a
    · subst e; exact hat
    · rw [cellE_congr E (hk b) (hg b e).1 (hg b e).2]
      refine (s1 b hb (by rw [← hn]; exact hb2)).kept (ho _ ?_)
      rw [ad_new E hb, ad_new E ha]
      omega
  · rw [ho q (by rw [ad_new E ha]; omega)]
    exact s3 q hq
  · rw [(hg 1 (by omega)).1]
    exact s5 j hj
  · rw [hk] at hb
    by_cases e : b = a
    · subst e; exact hc hb j
    · rw [(hg b e).1]; exact s6 b hb j
/-- a cell is new -/
theorem Sim.new {H : AH} {Hr Hr' : Heap} {c n w : Nat} (h : Sim E G L xs H Hr) (hc : c = 1 ∨ c = 2 ∨ c = 3 ∨ (20 ≤ c ∧ c < 100))
    (hat : va_at (eD E) vwCl (Hr.size, cellE E (al H c n w) (nx H)) Hr') (hz : Hr'.size = Hr.size + 1) (ho : ∀ q : Nat, q < Hr.size → Hr'[q]? = Hr[q]?) : Sim E G L xs (al H c n w) Hr' := by
  obtain ⟨s1, s2, s3, ⟨k0, k1, k2, k3, k4, k5⟩, s5, s6⟩ := h
  have h1 : (2 : Nat) ≤ K0 := by decide
  have h2 : K0 = 2 + nS := by decide
  have hkd : ∀ b, b ≠ nx H → kd (al H c n w) b = kd H b := fun b hb => by rw [kd_al, if_neg hb]
  have hgi : ∀ b, b ≠ nx H → gi (al H c n w) b = gi H b := fun b hb => by funext j; rw [gi_al, if_neg hb]
  have hgr : ∀ b, b ≠ nx H → gr (al H c n w) b = gr H b := fun b hb => by funext j; rw [gr_al, if_neg hb]
  have hnew : kd (al H c n w) (nx H) = (c, n) := by rw [kd_al, if_pos rfl]
  refine ⟨fun b hb hb2 => ?_, by rw [hz, nx_al, s2]; omega, fun q hq => ?_, ⟨by rw [nx_al]; omega, by rw [hkd 0 (by omega)]; exact k1, by rw [hkd 1 (by omega)]; exact k2, fun j hj => by rw [hkd _ (by omega)]; exact k3 j hj, fun b hb hb2 => ?_, fun b hb => ?_⟩, fun j hj => ?_, fun b hb j => ?_⟩
  · rw [nx_al] at hb2
    by_cases e : b = nx H
    · subst e
      rw [ad_new E hb, ← s2]
      exact hat
    · rw [cellE_congr E (hkd b e) (hgi b e) (hgr b e)]
      refine (s1 b hb (by omega)).kept (ho _ ?_)
      rw [s2, ad_new E hb]
      omega
  · rw [ho q (by rw [s2]; omega)]
    exact s3 q hq
  · rw [nx_al] at hb2
    by_cases e : b = nx H
    · subst e; rw [hnew]; exact hc
    · rw [hkd b e]; exact k4 b hb (by omega)
  · rw [nx_al] at hb
    rw [hkd b (by omega)]
    exact k5 b (by omega)
  · rw [hgi 1 (by omega)]
    exact s5 j hj
  · by_cases e : b = nx H
    · subst e; rw [gi_al, if_pos rfl]; decide
    · rw [hkd b e] at hb
      rw [hgi b e]; exact s6 b hb j
end SMS
/-! locals -/
def sm_ll (E : SE) : Nat → List AV → List (Nat × Value)
  | _, [] => []
  | i, v :: vs => match v with
    | .inr none => sm_ll E (i + 1) vs
    | v => (i, conc E v) :: sm_ll E (i + 1) vs
theorem sm_ll_mem (E : SE) : ∀ (vs : List AV) (i : Nat) (q : Nat × Value), q ∈ sm_ll E i vs ↔ ∃ k v, sm_nth vs k = some v ∧ v ≠ vU ∧ q = (i + k, conc E v) := by
  intro vs
  induction vs with
  | nil => intro i q; simp [sm_ll, sm_nth]
  | cons v vs ih =>
    intro i q
    have key : (∃ k w, sm_nth (v :: vs) k = some w ∧ w ≠ vU ∧ q = (i + k, conc E w)) ↔ ((v ≠ vU ∧ q = (i, conc E v)) ∨ ∃ k w, sm_nth vs k = some w ∧ w ≠ vU ∧ q = (i + 1 + k, conc E w)) := by
      constructor
      · rintro ⟨k, w, h1, h2, h3⟩
        cases k with
        | zero => simp only [sm_nth, Option.some.injEq] at h1; subst h1; exact Or.inl ⟨h2, by rw [h3]; rfl⟩
        | succ k => simp only [sm_nth] at h1; exact Or.inr ⟨k, w, h1, h2, by rw [h3, show i + 1 + k = i + (k + 1) by omega]⟩
      · rintro (⟨h2, h3⟩ | ⟨k, w, h1, h2, h3⟩)
        · exact ⟨0, v, rfl, h2, by rw [h3]; rfl⟩
        · exact ⟨k + 1, w, h1, h2, by rw [h3, show i + 1 + k = i + (k + 1) by omega]⟩
    rw [key]
    rcases v with x | a
    · simp only [sm_ll, List.mem_cons, ih]
      constructor
      · rintro (h | h)
        · exact Or.inl ⟨by simp, h⟩
        · exact Or.inr h
      · rintro (⟨-, h⟩ | h)
        · exact Or.inl h
        · exact Or.inr h
    · cases a with
      | none =>
        simp only [sm_ll, ih]
        constructor
        · intro h; exact Or.inr h
        · rintro (⟨h, -⟩ | h)
          · exact absurd rfl h
          · exact h
      | some r =>
        simp only [sm_ll, List.mem_cons, ih]
        constructor
        · rintro (h | h)
          · exact Or.inl ⟨by simp, h⟩
          · exact Or.inr h
        · rintro (⟨-, h⟩ | h)
          · exact Or.inl h
          · exact Or.inr h
theorem sm_nth_set {α : Type} : ∀ (l : List α) (i : Nat) (v : α) (k : Nat), sm_nth (sm_set l i v) k = if k = i ∧ i < l.length then some v else sm_nth l k := by
  intro l
  induction l with
  | nil => intro i v k; simp [sm_set]
  | cons x l ih =>
    intro i v k
    cases i with
    | zero =>
      cases k with
      | zero => simp [sm_set, sm_nth]
      | succ k => simp [sm_set, sm_nth]
    | succ i =>
      cases k with
      | zero => simp [sm_set, sm_nth]
      | succ k => simp only [sm_set, sm_nth, ih, List.length_cons]; congr 1; simp only [eq_iff_iff]; omega
theorem sm_set_len {α : Type} : ∀ (l : List α) (i : Nat) (v : α), (sm_set l i v).length = l.length := by
  intro l
  induction l with
  | nil => intro i v; rfl
  | cons x l ih =>
    intro i v
    cases i with
    | zero => rfl
    | succ i => simp only [sm_set, List.length_cons, ih]
theorem sm_nth_lt {α : Type} : ∀ (l : List α) (k : Nat) (v : α), sm_nth l k = some v → k < l.length := by
  intro l
  induction l with
  | nil => intro k v h; simp [sm_nth] at h
  | cons x l ih =>
    intro k v h
    cases k with
    | zero => simp
    | succ k => simp only [sm_nth] at h; have := ih k v h; simp only [List.length_cons]; omega
def LocR (E : SE) (nL : Nat) (ls : List AV) (lr : Array Slot) : Prop := ls.length = nL ∧ lv_has lr nL (sm_ll E 0 ls)
theorem LocR.get {E : SE} {nL : Nat} {ls : List AV} {lr : Array Slot} (h : LocR E nL ls lr) {i : Nat} {v : AV} (hv : sm_nth ls i = some v) (hu : v ≠ vU) : lr[i]? = some (.val (conc E v)) :=
  h.2.2.2 (i, conc E v) ((sm_ll_mem E ls 0 _).mpr ⟨i, v, hv, hu, by rw [Nat.zero_add]⟩)
/-- a store: the real locals behind it show the new list -/
theorem LocR.set {E : SE} {nL : Nat} {ls : List AV} {lr : Array Slot} (h : LocR E nL ls lr) {i : Nat} (hi : i < nL) {v : AV} {lr' : Array Slot}
    (h' : lv_has lr' nL ((i, conc E v) :: (sm_ll E 0 ls).filter (fun q => !(q.1 == i) && !(q.1 + 1 == i && q.2.category == 2)))) : LocR E nL (sm_set ls i v) lr' := by
  refine ⟨by rw [sm_set_len]; exact h.1, h'.1, h'.2.1, fun q hq => ?_⟩
  obtain ⟨k, w, h1, h2, h3⟩ := (sm_ll_mem E _ 0 q).mp hq
  rw [Nat.zero_add] at h3
  refine h'.2.2 q ?_
  rw [sm_nth_set] at h1
  split at h1
  · rename_i e
    cases h1
    rw [h3, e.1]
    exact List.mem_cons_self
  · rename_i e
    have hne : k ≠ i := fun q => e ⟨q, by rw [h.1]; exact hi⟩
    refine List.mem_cons_of_mem _ (List.mem_filter.mpr ⟨(sm_ll_mem E ls 0 q).mpr ⟨k, w, h1, h2, by rw [h3, Nat.zero_add]⟩, ?_⟩)
    rw [h3]
    simp [hne, conc_cat]
