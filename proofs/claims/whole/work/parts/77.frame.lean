/-! what a call can reach -/
def RV (S : Nat → Prop) : AV → Prop
  | .inl _ => True
  | .inr none => True
  | .inr (some a) => S a
def RL (S : Nat → Prop) : List AV → Prop
  | [] => True
  | v :: l => RV S v ∧ RL S l
def ZK (c : Nat) : Prop := c = 0 ∨ c = 4 ∨ c = 5
def CL (S : Nat → Prop) (H : AH) : Prop := ∀ a k, S a → 20 ≤ (kd H a).1 → S (gr H a k)
def FRM (S : Nat → Prop) (n0 : Nat) (H H' : AH) : Prop := ∀ a, a < n0 → (¬ S a ∨ ZK (kd H a).1) → gi H' a = gi H a ∧ gr H' a = gr H a ∧ kd H' a = kd H a
theorem FRM.rf {S : Nat → Prop} {n0 : Nat} {H : AH} : FRM S n0 H H := fun _ _ _ => ⟨rfl, rfl, rfl⟩
theorem FRM.trans {S : Nat → Prop} {n0 : Nat} {H H1 H2 : AH} (h : FRM S n0 H H1) (h2 : FRM S n0 H1 H2) : FRM S n0 H H2 := fun a hn ha => by
  obtain ⟨a1, a2, a3⟩ := h a hn ha
  obtain ⟨b1, b2, b3⟩ := h2 a hn (by rw [a3]; exact ha)
  exact ⟨b1.trans a1, b2.trans a2, b3.trans a3⟩
section FRMS
variable {S : Nat → Prop} {M : Nat → Prop} {H : AH} {n0 : Nat}
theorem fr_si {a k : Nat} {x : Int32} (ha : S a) (hz : ¬ ZK (kd H a).1) : FRM S n0 H (si H a k x) := fun b _ hb => ⟨by
  funext j
  rw [gi_si, if_neg (fun z => by rw [z.1] at hb; exact hb.elim (fun q => q ha) hz)], rfl, rfl⟩
theorem fr_sr {a k r : Nat} (ha : S a) (hz : ¬ ZK (kd H a).1) : FRM S n0 H (sr H a k r) := fun b _ hb => ⟨rfl, by
  funext j
  rw [gr_sr, if_neg (fun z => by rw [z.1] at hb; exact hb.elim (fun q => q ha) hz)], rfl⟩
theorem fr_cp {a p b q n : Nat} (ha : S b) (hz : ¬ ZK (kd H b).1) : FRM S n0 H (cp H a p b q n) := fun c _ hb => ⟨by
  funext j
  rw [gi_cp, if_neg (fun z => by rw [z.1] at hb; exact hb.elim (fun q => q ha) hz)], rfl, rfl⟩
theorem fr_al {c n w : Nat} (hx : n0 ≤ nx H) : FRM S n0 H (al H c n w) := fun b hn _ => by
  have e : b ≠ nx H := by omega
  refine ⟨?_, ?_, ?_⟩
  · funext j; rw [gi_al, if_neg e]
  · funext j; rw [gr_al, if_neg e]
  · rw [kd_al, if_neg e]
theorem cl_sr {a k r : Nat} (hc : CL S H) (hr : S r) : CL S (sr H a k r) := fun b j hb hk => by
  rw [gr_sr]
  split
  · exact hr
  · exact hc b j hb hk
theorem cl_al {c n w : Nat} (hc : CL S H) (h0 : S 0) : CL S (al H c n w) := fun b j hb hk => by
  rw [gr_al]
  split
  · exact h0
  · rename_i q
    rw [kd_al, if_neg q] at hk
    exact hc b j hb hk
theorem nz (c d : Nat) (h : c = 20 + d) : ¬ ZK c := by unfold ZK; omega
theorem nz6 (c d : Nat) (h : c = 60 + d) : ¬ ZK c := by unfold ZK; omega
theorem nz1 (c : Nat) (h : c = 1 ∨ c = 2 ∨ c = 3) : ¬ ZK c := by unfold ZK; omega
theorem RL.nth : ∀ {l : List AV} {k : Nat} {v : AV}, RL S l → sm_nth l k = some v → RV S v := by
  intro l
  induction l with
  | nil => intro k v _ h; cases h
  | cons u l ih =>
    intro k v hl h
    cases k with
    | zero => simp only [sm_nth, Option.some.injEq] at h; rw [← h]; exact hl.1
    | succ k => exact ih hl.2 h
theorem RL.set : ∀ {l : List AV} {k : Nat} {v : AV}, RL S l → RV S v → RL S (sm_set l k v) := by
  intro l
  induction l with
  | nil => intro k v _ _; trivial
  | cons u l ih =>
    intro k v hl hv
    cases k with
    | zero => exact ⟨hv, hl.2⟩
    | succ k => exact ⟨hl.1, ih hl.2 hv⟩
theorem RL.app : ∀ {l m : List AV}, RL S (l ++ m) ↔ RL S l ∧ RL S m := by
  intro l
  induction l with
  | nil => intro m; simp [RL]
  | cons u l ih => intro m; simp only [List.cons_append, RL, ih, and_assoc]
theorem RL.rev : ∀ {l : List AV}, RL S l.reverse → RL S l := by
  intro l
  induction l with
  | nil => intro h; exact h
  | cons u l ih =>
    intro h
    rw [List.reverse_cons, RL.app] at h
    exact ⟨h.2.1, ih h.1⟩
theorem ast_fr {txt : Nat → List Int32} {i : Ins} {len pc pc' : Nat} {ls st ls' st' : List AV} {H' : AH} {o : Option Prop} (h0 : S 0) (hN : ∀ a, n0 ≤ a → S a) (h : ast txt i len pc ls st H = some (o, pc', ls', st', H')) (hl : RL S ls) (hs : RL S st) (hc : CL S H) (hn : n0 ≤ nx H) (ho : o.getD True) (h48 : i.1 = 48 → S (2 + i.2.2.1)) :
    RL S ls' ∧ RL S st' ∧ CL S H' ∧ FRM S n0 H H' := by
  have hx : S (nx H) := hN _ hn
  unfold ast at h
  split at h <;> first
    | (cases h; done)
    | (simp only [Option.some.injEq, Prod.mk.injEq] at h
       obtain ⟨rfl, -, rfl, rfl, rfl⟩ := h
       refine ⟨?_, ?_, ?_, ?_⟩
       · first | exact hl | exact hl.set trivial | exact hl.set hs.1
       · first
           | exact hs
           | exact ⟨trivial, hs⟩
           | exact hs.2
           | exact ⟨trivial, hs.2⟩
           | exact ⟨trivial, hs.2.2⟩
           | exact ⟨hs.1, hs.1, hs.2⟩
           | exact ⟨hs.1, hs.2.1, hs.1, hs.2.2⟩
           | exact ⟨hs.1, hs.2.1, hs.1, hs.2.1, hs.2.2⟩
           | exact ⟨hc _ _ hs.1 (by have q : (kd H _).1 = 20 + _ := ho; omega), hs.2⟩
           | exact ⟨hc _ _ hs.2.1 (by have q : (kd H _).1 = 60 + _ := ho.1; omega), hs.2.2⟩
           | exact hs.2.2
           | exact hs.2.2.2
           | exact ⟨hx, hs⟩
           | exact ⟨hx, hs.2⟩
           | exact ⟨h48 (by assumption), hs⟩
           | exact ⟨h0, hs⟩
           | exact hs.2.2.2.2.2
       · first | exact hc | exact cl_sr hc hs.1 | exact cl_al hc h0
       · first | exact FRM.rf | exact fr_si hs.2.1 (nz _ _ ho.1) | exact fr_sr hs.2.1 (nz _ _ ho) | exact fr_si hs.2.2.1 (nz1 _ (Or.inl ho.1)) | exact fr_si hs.2.2.1 (nz1 _ (Or.inr (Or.inl ho.1))) | exact fr_si hs.2.2.1 (nz1 _ (Or.inr (Or.inr ho.1))) | exact fr_sr hs.2.2.1 (nz6 _ _ ho.1) | exact fr_al hn | exact fr_cp hs.2.2.1 (nz1 _ (Or.inr (Or.inl ho.2.2.1))))
    | (split at h <;> first
        | (cases h; done)
        | (simp only [Option.some.injEq, Prod.mk.injEq] at h
           obtain ⟨-, -, rfl, rfl, rfl⟩ := h
           refine ⟨?_, ?_, hc, FRM.rf⟩
           · first | exact hl | exact hl.set trivial
           · first | exact hs | exact ⟨trivial, hs⟩ | exact ⟨hl.nth (by assumption), hs⟩))
theorem br_fr {i : Ins} {st st' : List AV} {c : Prop} (h : sm_br i st = some (c, st')) (hs : RL S st) : RL S st' := by
  unfold sm_br at h
  split at h <;> first
    | (cases h; done)
    | (simp only [Option.some.injEq, Prod.mk.injEq] at h
       obtain ⟨-, rfl⟩ := h
       first | exact hs.2.2 | exact hs.2)
def CPr (S : Nat → Prop) (n0 : Nat) (as : List AV) (H : AH) (r : Option AV) (H' : AH) : Prop := RL S as → CL S H → n0 ≤ nx H → RL S r.toList ∧ CL S H' ∧ FRM S n0 H H'
theorem path_fr {txt : Nat → List Int32} {P : Nat → List AV → AH → Option AV → AH → Prop} (h0 : S 0) (hN : ∀ a, n0 ≤ a → S a) (hP : ∀ m as H r H', M m → P m as H r H' → nx H ≤ nx H' ∧ CPr S n0 as H r H') {C : SC} (h110 : ∀ pc i len, sm_nth C pc = some (some (i, len)) → i.1 = 110 → M i.2.2.1) (h48 : ∀ pc i len, sm_nth C pc = some (some (i, len)) → i.1 = 48 → S (2 + i.2.2.1)) :
    ∀ (n pc : Nat) (ls st : List AV) (H : AH) (r : Option AV) (H' : AH), Path txt P C n pc ls st H r H' → RL S ls → RL S st → CL S H → n0 ≤ nx H → RL S r.toList ∧ CL S H' ∧ FRM S n0 H H' := by
  intro n
  induction n with
  | zero => intro pc ls st H r H' h; exact h.elim
  | succ n ih =>
    intro pc ls st H r H' h hl hs hc hn
    simp only [Path] at h
    split at h
    · rename_i i len hC
      rcases h with ⟨-, x, -, -, rfl, rfl⟩ | ⟨-, a, rfl, rfl, rfl⟩ | ⟨-, -, rfl, rfl⟩ | ⟨e110, as, rest, r1, H1, rfl, -, -, hcl, hk⟩ | ⟨-, x, rest, rfl, hk⟩ | ⟨c, st', hb, hk⟩ | ⟨o, pc', ls', st', H1, ha, ho, hk⟩
      · exact ⟨⟨trivial, trivial⟩, hc, FRM.rf⟩
      · exact ⟨hs, hc, FRM.rf⟩
      · exact ⟨trivial, hc, FRM.rf⟩
      · obtain ⟨g1, g2⟩ := hP _ _ _ _ _ (h110 pc i len hC e110) hcl
        rw [RL.app] at hs
        obtain ⟨a1, a2, a3⟩ := g2 hs.1.rev hc hn
        obtain ⟨b1, b2, b3⟩ := ih _ _ _ _ _ _ hk hl (RL.app.mpr ⟨a1, hs.2⟩) a2 (by omega)
        exact ⟨b1, b2, a3.trans b3⟩
      · exact ih _ _ _ _ _ _ hk hl hs.2 hc hn
      · rcases hk with ⟨-, hk⟩ | ⟨-, hk⟩ <;> exact ih _ _ _ _ _ _ hk hl (br_fr hb hs) hc hn
      · obtain ⟨a1, a2, a3, a4⟩ := ast_fr h0 hN ha hl hs hc hn ho (h48 pc i len hC)
        have hg := ast_grow ha
        obtain ⟨b1, b2, b3⟩ := ih _ _ _ _ _ _ hk a1 a2 a3 (by omega)
        exact ⟨b1, b2, a4.trans b3⟩
    · exact h.elim
theorem call_fr {txt : Nat → List Int32} {mt : Nat → SC × Nat × Nat} (h0 : S 0) (hN : ∀ a, n0 ≤ a → S a) (h110 : ∀ m pc i len, M m → sm_nth (mt m).1 pc = some (some (i, len)) → i.1 = 110 → M i.2.2.1) (h48 : ∀ m pc i len, M m → sm_nth (mt m).1 pc = some (some (i, len)) → i.1 = 48 → S (2 + i.2.2.1)) :
    ∀ (d m : Nat) (as : List AV) (H : AH) (r : Option AV) (H' : AH), M m → Call txt mt d m as H r H' → nx H ≤ nx H' ∧ CPr S n0 as H r H' := by
  intro d
  induction d with
  | zero => intro m as H r H' _ h; exact h.elim
  | succ d ih =>
    intro m as H r H' hM h
    refine ⟨(Call_grow _ _ _ _ _ _ h).1, fun ha hc hn => ?_⟩
    obtain ⟨-, n, hp⟩ := h
    refine path_fr h0 hN ih (fun pc i len => h110 m pc i len hM) (fun pc i len => h48 m pc i len hM) n _ _ _ _ _ _ hp ?_ trivial hc hn
    rw [RL.app]
    refine ⟨ha, ?_⟩
    generalize (mt m).2.1 - as.length = q
    induction q with
    | zero => trivial
    | succ q ihq => exact ⟨trivial, ihq⟩
end FRMS
/-- calls stay between lo and hi, text constants are below n -/
def okC (lo hi n : Nat) (C : SC) : Bool := C.all (fun x => match x with
  | some (i, _) => (i.1 != 48 || decide (i.2.2.1 < n)) && (i.1 != 110 || (decide (lo ≤ i.2.2.1) && decide (i.2.2.1 < hi)))
  | none => true)
theorem nth_mem {α : Type} : ∀ {l : List α} {k : Nat} {v : α}, sm_nth l k = some v → v ∈ l := by
  intro l
  induction l with
  | nil => intro k v h; cases h
  | cons u l ih =>
    intro k v h
    cases k with
    | zero => simp only [sm_nth, Option.some.injEq] at h; rw [← h]; exact List.mem_cons_self
    | succ k => exact List.mem_cons_of_mem _ (ih h)
theorem okC_48 {lo hi n : Nat} {C : SC} (h : okC lo hi n C = true) {pc : Nat} {i : Ins} {len : Nat} (hC : sm_nth C pc = some (some (i, len))) (h48 : i.1 = 48) : i.2.2.1 < n := by
  unfold okC at h
  rw [List.all_eq_true] at h
  have := h _ (nth_mem hC)
  simp only [h48, bne_self_eq_false, Bool.false_or, Bool.and_eq_true, decide_eq_true_eq] at this
  exact this.1
theorem okC_110 {lo hi n : Nat} {C : SC} (h : okC lo hi n C = true) {pc : Nat} {i : Ins} {len : Nat} (hC : sm_nth C pc = some (some (i, len))) (h48 : i.1 = 110) : lo ≤ i.2.2.1 ∧ i.2.2.1 < hi := by
  unfold okC at h
  rw [List.all_eq_true] at h
  have := h _ (nth_mem hC)
  simp only [h48, bne_self_eq_false, Bool.false_or, Bool.and_eq_true, decide_eq_true_eq] at this
  exact this.2
theorem okP : (List.range 118).all (fun m => okC 0 118 17 (MT m).1) = true := by decide +kernel
theorem okM : (List.range 55).all (fun m => okC 118 173 0 (MT (118 + m)).1) = true := by decide +kernel
