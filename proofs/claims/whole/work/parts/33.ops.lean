/-! one instruction, each opcode: the small machine's step is the real one's -/
theorem fit_int {ty : FieldType} {t : Nat} {v : Int32} (h : tcode ty = t) (ht : t < 3) (hf : sm_fits t v) : narrow ty (.int v) = .int v ∧ fits ty (.int v) = true := by
  cases ty <;> simp only [tcode] at h <;> subst h <;> first
    | (exfalso; omega)
    | exact ⟨rfl, rfl⟩
    | (rcases hf with rfl | rfl <;> exact ⟨by decide, by decide⟩)
    | (obtain ⟨n, hn, rfl⟩ := hf; exact pk_charN hn)
theorem fit_ref {E : SE} {ty : FieldType} {r : Nat} (h : tcode ty = 3) : narrow ty (conc E (vR r)) = conc E (vR r) ∧ fits ty (conc E (vR r)) = true := by
  by_cases hr : r = 0
  · subst hr
    rw [conc_0]
    cases ty <;> simp only [tcode] at h <;> first | (exfalso; omega) | exact ⟨rfl, rfl⟩
  · rw [conc_R E hr]
    cases ty <;> simp only [tcode] at h <;> first | (exfalso; omega) | exact ⟨rfl, rfl⟩
theorem okK.four {L : Nat} {H : AH} (h : okK L H) {a : Nat} (h4 : (kd H a).1 = 4) : a = 1 := by
  obtain ⟨k0, k1, k2, k3, k4, k5⟩ := h
  have hk : K0 = 2 + nS := by decide
  by_cases h1 : a = 1
  · exact h1
  · exfalso
    rcases Nat.lt_or_ge a K0 with q | q
    · rcases Nat.lt_or_ge a 1 with q3 | q3
      · rw [show a = 0 by omega, k1] at h4; omega
      · have h6 := k3 (a - 2) (by omega)
        rw [show 2 + (a - 2) = a by omega] at h6
        rw [h6] at h4; simp at h4
    · rcases Nat.lt_or_ge a (nx H) with q2 | q2
      · have := k4 a q q2; omega
      · have := k5 a q2; omega
theorem okK.five {L : Nat} {H : AH} (h : okK L H) {a : Nat} (h5 : (kd H a).1 = 5) : ∃ j, j < nS ∧ a = 2 + j ∧ (kd H a).2 = j := by
  obtain ⟨k0, k1, k2, k3, k4, k5⟩ := h
  have hk : K0 = 2 + nS := by decide
  rcases Nat.lt_or_ge a K0 with q | q
  · rcases Nat.lt_or_ge a 2 with q3 | q3
    · exfalso
      rcases Nat.lt_or_ge a 1 with q4 | q4
      · rw [show a = 0 by omega, k1] at h5; omega
      · rw [show a = 1 by omega, k2] at h5; simp at h5
    · have h6 := k3 (a - 2) (by omega)
      rw [show 2 + (a - 2) = a by omega] at h6
      exact ⟨a - 2, by omega, by omega, by rw [h6]⟩
  · exfalso
    rcases Nat.lt_or_ge a (nx H) with q2 | q2
    · have := k4 a q q2; omega
    · have := k5 a q2; omega
abbrev ASR : Type := Option Prop × Nat × List AV × List AV × AH
theorem as_1 {txt : Nat → List Int32} {len pc a b : Nat} {ls st : List AV} {H : AH} {cst : Int32} {tl : List Nat} : ast txt (1, cst, a, b, tl) len pc ls st H = (match sm_nth ls a with
    | some (.inl x) => some (none, pc + len, ls, vI x :: st, H)
    | _ => none) := rfl
theorem as_2 {txt : Nat → List Int32} {len pc a b : Nat} {ls st : List AV} {H : AH} {cst : Int32} {tl : List Nat} : ast txt (2, cst, a, b, tl) len pc ls st H = (match sm_nth ls a with
    | some (.inr (some x)) => some (none, pc + len, ls, vR x :: st, H)
    | _ => none) := rfl
theorem as_5 {txt : Nat → List Int32} {len pc a b : Nat} {ls st : List AV} {H : AH} {cst : Int32} {tl : List Nat} : ast txt (5, cst, a, b, tl) len pc ls st H = (match sm_nth ls a with
    | some (.inl x) => some (none, pc + len, sm_set ls a (vI (x + cst)), st, H)
    | _ => none) := rfl
section SMO
variable {p : Program} {l : Launch} {e : Env} {R : Room} {s : State} {m : MethodId} {args : Array Value} {below : List Frame} {meth : Method} {c : Code} {locs : List Loc} {cells slots : Nat} {Q : State → Prop}
variable {E : SE} {G : Heap} {L : Nat} {xs : Nat → Int32} {H H1 : AH} {Hr : Heap} {oc nL pc pc' len rt a b : Nat} {ini : Bool} {cc : ByteArray} {lr : Array Slot} {ls st ls' st' : List AV} {cst : Int32} {tl : List Nat} {o : Option Prop} {x : Instr}
theorem Sim.vaS (hS : Sim E G L xs H Hr) (hG : G.size = eS E) (hlo : okL E locs) : va_S (fun q => eS E ≤ q) G Hr locs :=
  ⟨by rw [hG, hS.2.1]; omega, fun q h1 _ => hS.2.2.1 q (by rw [← hG]; exact h1), hlo⟩
theorem ss_0 (X : Cx p m c meth s oc ini nL cc) (hK : Kf E G L xs s) (hR : 8 ≤ R.frames ∧ 600 ≤ R.locals) (hS : Sim E G L xs H Hr) (hl : LocR E nL ls lr) (hlo : okL E locs) (hd : decode cc pc = .ok (x, len)) (hk : lkI oc ini rt nL pc len (0, cst, a, b, tl) x = true) (ha : ast TXT (0, cst, a, b, tl) len pc ls st H = some (o, pc', ls', st', H1)) (ho : o.getD True) (hc : cells + (nx H1 - nx H) ≤ R.cells) (hs : slots + (su H1 - su H) ≤ R.slots)
    (kk : ∀ (lr' : Array Slot) (Hr' : Heap) (locs' : List Loc), LocR E nL ls' lr' → Sim E G L xs H1 Hr' → okL E locs' → W p l e R s m args below meth c Hr' locs' (cells + (nx H1 - nx H)) (slots + (su H1 - su H)) Q (F0 m pc' lr' (st'.map (conc E)))) : W p l e R s m args below meth c Hr locs cells slots Q (F0 m pc lr (st.map (conc E))) := by
  change some _ = some _ at ha
  simp only [Option.some.injEq, Prod.mk.injEq] at ha
  obtain ⟨rfl, rfl, rfl, rfl, rfl⟩ := ha
  rcases lkI_0 hk with ⟨v, rfl, rfl, hv⟩ | ⟨v, rfl, rfl, hv⟩ | ⟨v, rfl, rfl, hv⟩
  · refine lv_iconst X.1 X.2.1 hd hv ?_
    exact W.widen (Nat.le_add_right _ _) (Nat.le_add_right _ _) (kk lr Hr locs hl hS hlo)
  · refine lv_bipush X.1 X.2.1 hd hv ?_
    exact W.widen (Nat.le_add_right _ _) (Nat.le_add_right _ _) (kk lr Hr locs hl hS hlo)
  · refine lv_sipush X.1 X.2.1 hd hv ?_
    exact W.widen (Nat.le_add_right _ _) (Nat.le_add_right _ _) (kk lr Hr locs hl hS hlo)
theorem ss_1 (X : Cx p m c meth s oc ini nL cc) (hK : Kf E G L xs s) (hR : 8 ≤ R.frames ∧ 600 ≤ R.locals) (hS : Sim E G L xs H Hr) (hl : LocR E nL ls lr) (hlo : okL E locs) (hd : decode cc pc = .ok (x, len)) (hk : lkI oc ini rt nL pc len (1, cst, a, b, tl) x = true) (ha : ast TXT (1, cst, a, b, tl) len pc ls st H = some (o, pc', ls', st', H1)) (ho : o.getD True) (hc : cells + (nx H1 - nx H) ≤ R.cells) (hs : slots + (su H1 - su H) ≤ R.slots)
    (kk : ∀ (lr' : Array Slot) (Hr' : Heap) (locs' : List Loc), LocR E nL ls' lr' → Sim E G L xs H1 Hr' → okL E locs' → W p l e R s m args below meth c Hr' locs' (cells + (nx H1 - nx H)) (slots + (su H1 - su H)) Q (F0 m pc' lr' (st'.map (conc E)))) : W p l e R s m args below meth c Hr locs cells slots Q (F0 m pc lr (st.map (conc E))) := by
  cases hv : sm_nth ls a with
  | none => rw [as_1, hv] at ha; cases ha
  | some v =>
    rcases v with v | v
    · rw [as_1, hv] at ha
      change some _ = some _ at ha
      simp only [Option.some.injEq, Prod.mk.injEq] at ha
      obtain ⟨rfl, rfl, rfl, rfl, rfl⟩ := ha
      rcases lkI_1 hk with ⟨k, rfl, rfl, hka⟩ | ⟨rfl, rfl⟩
      · refine lv_iload_n X.1 X.2.1 hd hka (hl.get hv (by simp)) ?_
        exact W.widen (Nat.le_add_right _ _) (Nat.le_add_right _ _) (kk lr Hr locs hl hS hlo)
      · refine lv_iload X.1 X.2.1 hd (hl.get hv (by simp)) ?_
        exact W.widen (Nat.le_add_right _ _) (Nat.le_add_right _ _) (kk lr Hr locs hl hS hlo)
    · rw [as_1, hv] at ha; cases ha
theorem ss_2 (X : Cx p m c meth s oc ini nL cc) (hK : Kf E G L xs s) (hR : 8 ≤ R.frames ∧ 600 ≤ R.locals) (hS : Sim E G L xs H Hr) (hl : LocR E nL ls lr) (hlo : okL E locs) (hd : decode cc pc = .ok (x, len)) (hk : lkI oc ini rt nL pc len (2, cst, a, b, tl) x = true) (ha : ast TXT (2, cst, a, b, tl) len pc ls st H = some (o, pc', ls', st', H1)) (ho : o.getD True) (hc : cells + (nx H1 - nx H) ≤ R.cells) (hs : slots + (su H1 - su H) ≤ R.slots)
    (kk : ∀ (lr' : Array Slot) (Hr' : Heap) (locs' : List Loc), LocR E nL ls' lr' → Sim E G L xs H1 Hr' → okL E locs' → W p l e R s m args below meth c Hr' locs' (cells + (nx H1 - nx H)) (slots + (su H1 - su H)) Q (F0 m pc' lr' (st'.map (conc E)))) : W p l e R s m args below meth c Hr locs cells slots Q (F0 m pc lr (st.map (conc E))) := by
  cases hv : sm_nth ls a with
  | none => rw [as_2, hv] at ha; cases ha
  | some v =>
    rcases v with v | (_ | r)
    · rw [as_2, hv] at ha; cases ha
    · rw [as_2, hv] at ha; cases ha
    · rw [as_2, hv] at ha
      change some _ = some _ at ha
      simp only [Option.some.injEq, Prod.mk.injEq] at ha
      obtain ⟨rfl, rfl, rfl, rfl, rfl⟩ := ha
      have hg := hl.get hv (by simp)
      have hkk : W p l e R s m args below meth c Hr locs cells slots Q (F0 m (pc + len) lr (conc E (vR r) :: st.map (conc E))) := W.widen (Nat.le_add_right _ _) (Nat.le_add_right _ _) (kk lr Hr locs hl hS hlo)
      by_cases hr : r = 0
      · subst hr
        rw [conc_0] at hkk
        have hg : lr[a]? = some (.val .null) := by rw [hg]; rw [← conc_0 E]
        rcases lkI_2 hk with ⟨k, rfl, rfl, hka⟩ | ⟨rfl, rfl⟩
        · exact lv_aload_nN X.1 X.2.1 hd hka hg hkk
        · exact lv_aloadN X.1 X.2.1 hd hg hkk
      · rw [conc_R E hr] at hkk
        have hg : lr[a]? = some (.val (.ref (ad E r))) := by rw [hg]; rw [← conc_R E hr]
        rcases lkI_2 hk with ⟨k, rfl, rfl, hka⟩ | ⟨rfl, rfl⟩
        · exact lv_aload_n X.1 X.2.1 hd hka hg hkk
        · exact lv_aload X.1 X.2.1 hd hg hkk
theorem ss_3 (X : Cx p m c meth s oc ini nL cc) (hK : Kf E G L xs s) (hR : 8 ≤ R.frames ∧ 600 ≤ R.locals) (hS : Sim E G L xs H Hr) (hl : LocR E nL ls lr) (hlo : okL E locs) (hd : decode cc pc = .ok (x, len)) (hk : lkI oc ini rt nL pc len (3, cst, a, b, tl) x = true) (ha : ast TXT (3, cst, a, b, tl) len pc ls st H = some (o, pc', ls', st', H1)) (ho : o.getD True) (hc : cells + (nx H1 - nx H) ≤ R.cells) (hs : slots + (su H1 - su H) ≤ R.slots)
    (kk : ∀ (lr' : Array Slot) (Hr' : Heap) (locs' : List Loc), LocR E nL ls' lr' → Sim E G L xs H1 Hr' → okL E locs' → W p l e R s m args below meth c Hr' locs' (cells + (nx H1 - nx H)) (slots + (su H1 - su H)) Q (F0 m pc' lr' (st'.map (conc E)))) : W p l e R s m args below meth c Hr locs cells slots Q (F0 m pc lr (st.map (conc E))) := by
  rcases st with _ | ⟨y | y, st⟩ <;> try (cases (show (none : Option ASR) = some (o, pc', ls', st', H1) from ha); done)
  change some _ = some _ at ha
  simp only [Option.some.injEq, Prod.mk.injEq] at ha
  obtain ⟨rfl, rfl, rfl, rfl, rfl⟩ := ha
  obtain ⟨h1, hn⟩ := lkI_3 hk
  rcases h1 with ⟨k, rfl, rfl, hka⟩ | ⟨rfl, rfl⟩
  · exact lv_istore_n X.1 X.2.1 hd hka hl.2 hn rfl fun lr' h' => W.widen (Nat.le_add_right _ _) (Nat.le_add_right _ _) (kk lr' Hr locs (hl.set hn (v := vI y) h') hS hlo)
  · exact lv_istore X.1 X.2.1 hd hl.2 hn rfl fun lr' h' => W.widen (Nat.le_add_right _ _) (Nat.le_add_right _ _) (kk lr' Hr locs (hl.set hn (v := vI y) h') hS hlo)
theorem ss_4 (X : Cx p m c meth s oc ini nL cc) (hK : Kf E G L xs s) (hR : 8 ≤ R.frames ∧ 600 ≤ R.locals) (hS : Sim E G L xs H Hr) (hl : LocR E nL ls lr) (hlo : okL E locs) (hd : decode cc pc = .ok (x, len)) (hk : lkI oc ini rt nL pc len (4, cst, a, b, tl) x = true) (ha : ast TXT (4, cst, a, b, tl) len pc ls st H = some (o, pc', ls', st', H1)) (ho : o.getD True) (hc : cells + (nx H1 - nx H) ≤ R.cells) (hs : slots + (su H1 - su H) ≤ R.slots)
    (kk : ∀ (lr' : Array Slot) (Hr' : Heap) (locs' : List Loc), LocR E nL ls' lr' → Sim E G L xs H1 Hr' → okL E locs' → W p l e R s m args below meth c Hr' locs' (cells + (nx H1 - nx H)) (slots + (su H1 - su H)) Q (F0 m pc' lr' (st'.map (conc E)))) : W p l e R s m args below meth c Hr locs cells slots Q (F0 m pc lr (st.map (conc E))) := by
  rcases st with _ | ⟨y | (_ | r), st⟩ <;> try (cases (show (none : Option ASR) = some (o, pc', ls', st', H1) from ha); done)
  change some _ = some _ at ha
  simp only [Option.some.injEq, Prod.mk.injEq] at ha
  obtain ⟨rfl, rfl, rfl, rfl, rfl⟩ := ha
  obtain ⟨h1, hn⟩ := lkI_4 hk
  by_cases hr : r = 0
  · subst hr
    show W _ _ _ _ _ _ _ _ _ _ _ _ _ _ _ (F0 m pc lr (conc E (vR 0) :: st.map (conc E)))
    rw [conc_0]
    rcases h1 with ⟨k, rfl, rfl, hka⟩ | ⟨rfl, rfl⟩
    · exact lv_astore_nN X.1 X.2.1 hd hka hl.2 hn rfl fun lr' h' => W.widen (Nat.le_add_right _ _) (Nat.le_add_right _ _) (kk lr' Hr locs (hl.set hn (v := vR 0) (by rw [conc_0]; exact h')) hS hlo)
    · exact lv_astoreN X.1 X.2.1 hd hl.2 hn rfl fun lr' h' => W.widen (Nat.le_add_right _ _) (Nat.le_add_right _ _) (kk lr' Hr locs (hl.set hn (v := vR 0) (by rw [conc_0]; exact h')) hS hlo)
  · show W _ _ _ _ _ _ _ _ _ _ _ _ _ _ _ (F0 m pc lr (conc E (vR r) :: st.map (conc E)))
    rw [conc_R E hr]
    rcases h1 with ⟨k, rfl, rfl, hka⟩ | ⟨rfl, rfl⟩
    · exact lv_astore_n X.1 X.2.1 hd hka hl.2 hn rfl fun lr' h' => W.widen (Nat.le_add_right _ _) (Nat.le_add_right _ _) (kk lr' Hr locs (hl.set hn (v := vR r) (by rw [conc_R E hr]; exact h')) hS hlo)
    · exact lv_astore X.1 X.2.1 hd hl.2 hn rfl fun lr' h' => W.widen (Nat.le_add_right _ _) (Nat.le_add_right _ _) (kk lr' Hr locs (hl.set hn (v := vR r) (by rw [conc_R E hr]; exact h')) hS hlo)
theorem ss_5 (X : Cx p m c meth s oc ini nL cc) (hK : Kf E G L xs s) (hR : 8 ≤ R.frames ∧ 600 ≤ R.locals) (hS : Sim E G L xs H Hr) (hl : LocR E nL ls lr) (hlo : okL E locs) (hd : decode cc pc = .ok (x, len)) (hk : lkI oc ini rt nL pc len (5, cst, a, b, tl) x = true) (ha : ast TXT (5, cst, a, b, tl) len pc ls st H = some (o, pc', ls', st', H1)) (ho : o.getD True) (hc : cells + (nx H1 - nx H) ≤ R.cells) (hs : slots + (su H1 - su H) ≤ R.slots)
    (kk : ∀ (lr' : Array Slot) (Hr' : Heap) (locs' : List Loc), LocR E nL ls' lr' → Sim E G L xs H1 Hr' → okL E locs' → W p l e R s m args below meth c Hr' locs' (cells + (nx H1 - nx H)) (slots + (su H1 - su H)) Q (F0 m pc' lr' (st'.map (conc E)))) : W p l e R s m args below meth c Hr locs cells slots Q (F0 m pc lr (st.map (conc E))) := by
  cases hv : sm_nth ls a with
  | none => rw [as_5, hv] at ha; cases ha
  | some v =>
    rcases v with v | v
    · rw [as_5, hv] at ha
      change some _ = some _ at ha
      simp only [Option.some.injEq, Prod.mk.injEq] at ha
      obtain ⟨rfl, rfl, rfl, rfl, rfl⟩ := ha
      obtain ⟨w, rfl, rfl, rfl, hn⟩ := lkI_5 hk
      obtain ⟨k, hk2⟩ := List.mem_iff_getElem?.mp ((sm_ll_mem E ls 0 (a, Value.int v)).mpr ⟨a, vI v, hv, by simp, by rw [Nat.zero_add]; rfl⟩)
      exact lv_iinc X.1 X.2.1 hd hl.2 hk2 rfl hn rfl fun lr' h' => W.widen (Nat.le_add_right _ _) (Nat.le_add_right _ _) (kk lr' Hr locs (hl.set hn (v := vI (v + Int32.ofInt w)) h') hS hlo)
    · rw [as_5, hv] at ha; cases ha
theorem ss_6 (X : Cx p m c meth s oc ini nL cc) (hK : Kf E G L xs s) (hR : 8 ≤ R.frames ∧ 600 ≤ R.locals) (hS : Sim E G L xs H Hr) (hl : LocR E nL ls lr) (hlo : okL E locs) (hd : decode cc pc = .ok (x, len)) (hk : lkI oc ini rt nL pc len (6, cst, a, b, tl) x = true) (ha : ast TXT (6, cst, a, b, tl) len pc ls st H = some (o, pc', ls', st', H1)) (ho : o.getD True) (hc : cells + (nx H1 - nx H) ≤ R.cells) (hs : slots + (su H1 - su H) ≤ R.slots)
    (kk : ∀ (lr' : Array Slot) (Hr' : Heap) (locs' : List Loc), LocR E nL ls' lr' → Sim E G L xs H1 Hr' → okL E locs' → W p l e R s m args below meth c Hr' locs' (cells + (nx H1 - nx H)) (slots + (su H1 - su H)) Q (F0 m pc' lr' (st'.map (conc E)))) : W p l e R s m args below meth c Hr locs cells slots Q (F0 m pc lr (st.map (conc E))) := by
  rcases st with _ | ⟨y | y, _ | ⟨x1 | x1, st⟩⟩ <;> try (cases (show (none : Option ASR) = some (o, pc', ls', st', H1) from ha); done)
  change some _ = some _ at ha
  simp only [Option.some.injEq, Prod.mk.injEq] at ha
  obtain ⟨rfl, rfl, rfl, rfl, rfl⟩ := ha
  obtain ⟨rfl, rfl⟩ := lkI_6 hk
  refine lv_iadd (x := x1) (y := y) X.1 X.2.1 hd ?_
  exact W.widen (Nat.le_add_right _ _) (Nat.le_add_right _ _) (kk lr Hr locs hl hS hlo)
theorem ss_7 (X : Cx p m c meth s oc ini nL cc) (hK : Kf E G L xs s) (hR : 8 ≤ R.frames ∧ 600 ≤ R.locals) (hS : Sim E G L xs H Hr) (hl : LocR E nL ls lr) (hlo : okL E locs) (hd : decode cc pc = .ok (x, len)) (hk : lkI oc ini rt nL pc len (7, cst, a, b, tl) x = true) (ha : ast TXT (7, cst, a, b, tl) len pc ls st H = some (o, pc', ls', st', H1)) (ho : o.getD True) (hc : cells + (nx H1 - nx H) ≤ R.cells) (hs : slots + (su H1 - su H) ≤ R.slots)
    (kk : ∀ (lr' : Array Slot) (Hr' : Heap) (locs' : List Loc), LocR E nL ls' lr' → Sim E G L xs H1 Hr' → okL E locs' → W p l e R s m args below meth c Hr' locs' (cells + (nx H1 - nx H)) (slots + (su H1 - su H)) Q (F0 m pc' lr' (st'.map (conc E)))) : W p l e R s m args below meth c Hr locs cells slots Q (F0 m pc lr (st.map (conc E))) := by
  rcases st with _ | ⟨y | y, _ | ⟨x1 | x1, st⟩⟩ <;> try (cases (show (none : Option ASR) = some (o, pc', ls', st', H1) from ha); done)
  change some _ = some _ at ha
  simp only [Option.some.injEq, Prod.mk.injEq] at ha
  obtain ⟨rfl, rfl, rfl, rfl, rfl⟩ := ha
  obtain ⟨rfl, rfl⟩ := lkI_7 hk
  refine lv_isub (x := x1) (y := y) X.1 X.2.1 hd ?_
  exact W.widen (Nat.le_add_right _ _) (Nat.le_add_right _ _) (kk lr Hr locs hl hS hlo)
theorem ss_8 (X : Cx p m c meth s oc ini nL cc) (hK : Kf E G L xs s) (hR : 8 ≤ R.frames ∧ 600 ≤ R.locals) (hS : Sim E G L xs H Hr) (hl : LocR E nL ls lr) (hlo : okL E locs) (hd : decode cc pc = .ok (x, len)) (hk : lkI oc ini rt nL pc len (8, cst, a, b, tl) x = true) (ha : ast TXT (8, cst, a, b, tl) len pc ls st H = some (o, pc', ls', st', H1)) (ho : o.getD True) (hc : cells + (nx H1 - nx H) ≤ R.cells) (hs : slots + (su H1 - su H) ≤ R.slots)
    (kk : ∀ (lr' : Array Slot) (Hr' : Heap) (locs' : List Loc), LocR E nL ls' lr' → Sim E G L xs H1 Hr' → okL E locs' → W p l e R s m args below meth c Hr' locs' (cells + (nx H1 - nx H)) (slots + (su H1 - su H)) Q (F0 m pc' lr' (st'.map (conc E)))) : W p l e R s m args below meth c Hr locs cells slots Q (F0 m pc lr (st.map (conc E))) := by
  rcases st with _ | ⟨y | y, _ | ⟨x1 | x1, st⟩⟩ <;> try (cases (show (none : Option ASR) = some (o, pc', ls', st', H1) from ha); done)
  change some _ = some _ at ha
  simp only [Option.some.injEq, Prod.mk.injEq] at ha
  obtain ⟨rfl, rfl, rfl, rfl, rfl⟩ := ha
  obtain ⟨rfl, rfl⟩ := lkI_8 hk
  refine lv_imul (x := x1) (y := y) X.1 X.2.1 hd ?_
  exact W.widen (Nat.le_add_right _ _) (Nat.le_add_right _ _) (kk lr Hr locs hl hS hlo)
theorem ss_11 (X : Cx p m c meth s oc ini nL cc) (hK : Kf E G L xs s) (hR : 8 ≤ R.frames ∧ 600 ≤ R.locals) (hS : Sim E G L xs H Hr) (hl : LocR E nL ls lr) (hlo : okL E locs) (hd : decode cc pc = .ok (x, len)) (hk : lkI oc ini rt nL pc len (11, cst, a, b, tl) x = true) (ha : ast TXT (11, cst, a, b, tl) len pc ls st H = some (o, pc', ls', st', H1)) (ho : o.getD True) (hc : cells + (nx H1 - nx H) ≤ R.cells) (hs : slots + (su H1 - su H) ≤ R.slots)
    (kk : ∀ (lr' : Array Slot) (Hr' : Heap) (locs' : List Loc), LocR E nL ls' lr' → Sim E G L xs H1 Hr' → okL E locs' → W p l e R s m args below meth c Hr' locs' (cells + (nx H1 - nx H)) (slots + (su H1 - su H)) Q (F0 m pc' lr' (st'.map (conc E)))) : W p l e R s m args below meth c Hr locs cells slots Q (F0 m pc lr (st.map (conc E))) := by
  rcases st with _ | ⟨y | y, _ | ⟨x1 | x1, st⟩⟩ <;> try (cases (show (none : Option ASR) = some (o, pc', ls', st', H1) from ha); done)
  change some _ = some _ at ha
  simp only [Option.some.injEq, Prod.mk.injEq] at ha
  obtain ⟨rfl, rfl, rfl, rfl, rfl⟩ := ha
  obtain ⟨rfl, rfl⟩ := lkI_11 hk
  refine lv_iand (x := x1) (y := y) X.1 X.2.1 hd ?_
  exact W.widen (Nat.le_add_right _ _) (Nat.le_add_right _ _) (kk lr Hr locs hl hS hlo)
theorem ss_12 (X : Cx p m c meth s oc ini nL cc) (hK : Kf E G L xs s) (hR : 8 ≤ R.frames ∧ 600 ≤ R.locals) (hS : Sim E G L xs H Hr) (hl : LocR E nL ls lr) (hlo : okL E locs) (hd : decode cc pc = .ok (x, len)) (hk : lkI oc ini rt nL pc len (12, cst, a, b, tl) x = true) (ha : ast TXT (12, cst, a, b, tl) len pc ls st H = some (o, pc', ls', st', H1)) (ho : o.getD True) (hc : cells + (nx H1 - nx H) ≤ R.cells) (hs : slots + (su H1 - su H) ≤ R.slots)
    (kk : ∀ (lr' : Array Slot) (Hr' : Heap) (locs' : List Loc), LocR E nL ls' lr' → Sim E G L xs H1 Hr' → okL E locs' → W p l e R s m args below meth c Hr' locs' (cells + (nx H1 - nx H)) (slots + (su H1 - su H)) Q (F0 m pc' lr' (st'.map (conc E)))) : W p l e R s m args below meth c Hr locs cells slots Q (F0 m pc lr (st.map (conc E))) := by
  rcases st with _ | ⟨y | y, _ | ⟨x1 | x1, st⟩⟩ <;> try (cases (show (none : Option ASR) = some (o, pc', ls', st', H1) from ha); done)
  change some _ = some _ at ha
  simp only [Option.some.injEq, Prod.mk.injEq] at ha
  obtain ⟨rfl, rfl, rfl, rfl, rfl⟩ := ha
  obtain ⟨rfl, rfl⟩ := lkI_12 hk
  refine lv_ior (x := x1) (y := y) X.1 X.2.1 hd ?_
  exact W.widen (Nat.le_add_right _ _) (Nat.le_add_right _ _) (kk lr Hr locs hl hS hlo)
theorem ss_13 (X : Cx p m c meth s oc ini nL cc) (hK : Kf E G L xs s) (hR : 8 ≤ R.frames ∧ 600 ≤ R.locals) (hS : Sim E G L xs H Hr) (hl : LocR E nL ls lr) (hlo : okL E locs) (hd : decode cc pc = .ok (x, len)) (hk : lkI oc ini rt nL pc len (13, cst, a, b, tl) x = true) (ha : ast TXT (13, cst, a, b, tl) len pc ls st H = some (o, pc', ls', st', H1)) (ho : o.getD True) (hc : cells + (nx H1 - nx H) ≤ R.cells) (hs : slots + (su H1 - su H) ≤ R.slots)
    (kk : ∀ (lr' : Array Slot) (Hr' : Heap) (locs' : List Loc), LocR E nL ls' lr' → Sim E G L xs H1 Hr' → okL E locs' → W p l e R s m args below meth c Hr' locs' (cells + (nx H1 - nx H)) (slots + (su H1 - su H)) Q (F0 m pc' lr' (st'.map (conc E)))) : W p l e R s m args below meth c Hr locs cells slots Q (F0 m pc lr (st.map (conc E))) := by
  rcases st with _ | ⟨y | y, _ | ⟨x1 | x1, st⟩⟩ <;> try (cases (show (none : Option ASR) = some (o, pc', ls', st', H1) from ha); done)
  change some _ = some _ at ha
  simp only [Option.some.injEq, Prod.mk.injEq] at ha
  obtain ⟨rfl, rfl, rfl, rfl, rfl⟩ := ha
  obtain ⟨rfl, rfl⟩ := lkI_13 hk
  refine lv_ixor (x := x1) (y := y) X.1 X.2.1 hd ?_
  exact W.widen (Nat.le_add_right _ _) (Nat.le_add_right _ _) (kk lr Hr locs hl hS hlo)
theorem ss_14 (X : Cx p m c meth s oc ini nL cc) (hK : Kf E G L xs s) (hR : 8 ≤ R.frames ∧ 600 ≤ R.locals) (hS : Sim E G L xs H Hr) (hl : LocR E nL ls lr) (hlo : okL E locs) (hd : decode cc pc = .ok (x, len)) (hk : lkI oc ini rt nL pc len (14, cst, a, b, tl) x = true) (ha : ast TXT (14, cst, a, b, tl) len pc ls st H = some (o, pc', ls', st', H1)) (ho : o.getD True) (hc : cells + (nx H1 - nx H) ≤ R.cells) (hs : slots + (su H1 - su H) ≤ R.slots)
    (kk : ∀ (lr' : Array Slot) (Hr' : Heap) (locs' : List Loc), LocR E nL ls' lr' → Sim E G L xs H1 Hr' → okL E locs' → W p l e R s m args below meth c Hr' locs' (cells + (nx H1 - nx H)) (slots + (su H1 - su H)) Q (F0 m pc' lr' (st'.map (conc E)))) : W p l e R s m args below meth c Hr locs cells slots Q (F0 m pc lr (st.map (conc E))) := by
  rcases st with _ | ⟨y | y, _ | ⟨x1 | x1, st⟩⟩ <;> try (cases (show (none : Option ASR) = some (o, pc', ls', st', H1) from ha); done)
  change some _ = some _ at ha
  simp only [Option.some.injEq, Prod.mk.injEq] at ha
  obtain ⟨rfl, rfl, rfl, rfl, rfl⟩ := ha
  obtain ⟨rfl, rfl⟩ := lkI_14 hk
  refine lv_ishl (x := x1) (y := y) X.1 X.2.1 hd ?_
  exact W.widen (Nat.le_add_right _ _) (Nat.le_add_right _ _) (kk lr Hr locs hl hS hlo)
theorem ss_15 (X : Cx p m c meth s oc ini nL cc) (hK : Kf E G L xs s) (hR : 8 ≤ R.frames ∧ 600 ≤ R.locals) (hS : Sim E G L xs H Hr) (hl : LocR E nL ls lr) (hlo : okL E locs) (hd : decode cc pc = .ok (x, len)) (hk : lkI oc ini rt nL pc len (15, cst, a, b, tl) x = true) (ha : ast TXT (15, cst, a, b, tl) len pc ls st H = some (o, pc', ls', st', H1)) (ho : o.getD True) (hc : cells + (nx H1 - nx H) ≤ R.cells) (hs : slots + (su H1 - su H) ≤ R.slots)
    (kk : ∀ (lr' : Array Slot) (Hr' : Heap) (locs' : List Loc), LocR E nL ls' lr' → Sim E G L xs H1 Hr' → okL E locs' → W p l e R s m args below meth c Hr' locs' (cells + (nx H1 - nx H)) (slots + (su H1 - su H)) Q (F0 m pc' lr' (st'.map (conc E)))) : W p l e R s m args below meth c Hr locs cells slots Q (F0 m pc lr (st.map (conc E))) := by
  rcases st with _ | ⟨y | y, _ | ⟨x1 | x1, st⟩⟩ <;> try (cases (show (none : Option ASR) = some (o, pc', ls', st', H1) from ha); done)
  change some _ = some _ at ha
  simp only [Option.some.injEq, Prod.mk.injEq] at ha
  obtain ⟨rfl, rfl, rfl, rfl, rfl⟩ := ha
  obtain ⟨rfl, rfl⟩ := lkI_15 hk
  refine lv_ishr (x := x1) (y := y) X.1 X.2.1 hd ?_
  exact W.widen (Nat.le_add_right _ _) (Nat.le_add_right _ _) (kk lr Hr locs hl hS hlo)
theorem ss_9 (X : Cx p m c meth s oc ini nL cc) (hK : Kf E G L xs s) (hR : 8 ≤ R.frames ∧ 600 ≤ R.locals) (hS : Sim E G L xs H Hr) (hl : LocR E nL ls lr) (hlo : okL E locs) (hd : decode cc pc = .ok (x, len)) (hk : lkI oc ini rt nL pc len (9, cst, a, b, tl) x = true) (ha : ast TXT (9, cst, a, b, tl) len pc ls st H = some (o, pc', ls', st', H1)) (ho : o.getD True) (hc : cells + (nx H1 - nx H) ≤ R.cells) (hs : slots + (su H1 - su H) ≤ R.slots)
    (kk : ∀ (lr' : Array Slot) (Hr' : Heap) (locs' : List Loc), LocR E nL ls' lr' → Sim E G L xs H1 Hr' → okL E locs' → W p l e R s m args below meth c Hr' locs' (cells + (nx H1 - nx H)) (slots + (su H1 - su H)) Q (F0 m pc' lr' (st'.map (conc E)))) : W p l e R s m args below meth c Hr locs cells slots Q (F0 m pc lr (st.map (conc E))) := by
  rcases st with _ | ⟨y | y, _ | ⟨x1 | x1, st⟩⟩ <;> try (cases (show (none : Option ASR) = some (o, pc', ls', st', H1) from ha); done)
  change some _ = some _ at ha
  simp only [Option.some.injEq, Prod.mk.injEq] at ha
  obtain ⟨rfl, rfl, rfl, rfl, rfl⟩ := ha
  obtain ⟨rfl, rfl⟩ := lkI_9 hk
  refine lv_idiv (x := x1) (y := y) X.1 X.2.1 hd ho ?_
  exact W.widen (Nat.le_add_right _ _) (Nat.le_add_right _ _) (kk lr Hr locs hl hS hlo)
theorem ss_10 (X : Cx p m c meth s oc ini nL cc) (hK : Kf E G L xs s) (hR : 8 ≤ R.frames ∧ 600 ≤ R.locals) (hS : Sim E G L xs H Hr) (hl : LocR E nL ls lr) (hlo : okL E locs) (hd : decode cc pc = .ok (x, len)) (hk : lkI oc ini rt nL pc len (10, cst, a, b, tl) x = true) (ha : ast TXT (10, cst, a, b, tl) len pc ls st H = some (o, pc', ls', st', H1)) (ho : o.getD True) (hc : cells + (nx H1 - nx H) ≤ R.cells) (hs : slots + (su H1 - su H) ≤ R.slots)
    (kk : ∀ (lr' : Array Slot) (Hr' : Heap) (locs' : List Loc), LocR E nL ls' lr' → Sim E G L xs H1 Hr' → okL E locs' → W p l e R s m args below meth c Hr' locs' (cells + (nx H1 - nx H)) (slots + (su H1 - su H)) Q (F0 m pc' lr' (st'.map (conc E)))) : W p l e R s m args below meth c Hr locs cells slots Q (F0 m pc lr (st.map (conc E))) := by
  rcases st with _ | ⟨y | y, _ | ⟨x1 | x1, st⟩⟩ <;> try (cases (show (none : Option ASR) = some (o, pc', ls', st', H1) from ha); done)
  change some _ = some _ at ha
  simp only [Option.some.injEq, Prod.mk.injEq] at ha
  obtain ⟨rfl, rfl, rfl, rfl, rfl⟩ := ha
  obtain ⟨rfl, rfl⟩ := lkI_10 hk
  refine lv_irem (x := x1) (y := y) X.1 X.2.1 hd ho ?_
  exact W.widen (Nat.le_add_right _ _) (Nat.le_add_right _ _) (kk lr Hr locs hl hS hlo)
theorem ss_16 (X : Cx p m c meth s oc ini nL cc) (hK : Kf E G L xs s) (hR : 8 ≤ R.frames ∧ 600 ≤ R.locals) (hS : Sim E G L xs H Hr) (hl : LocR E nL ls lr) (hlo : okL E locs) (hd : decode cc pc = .ok (x, len)) (hk : lkI oc ini rt nL pc len (16, cst, a, b, tl) x = true) (ha : ast TXT (16, cst, a, b, tl) len pc ls st H = some (o, pc', ls', st', H1)) (ho : o.getD True) (hc : cells + (nx H1 - nx H) ≤ R.cells) (hs : slots + (su H1 - su H) ≤ R.slots)
    (kk : ∀ (lr' : Array Slot) (Hr' : Heap) (locs' : List Loc), LocR E nL ls' lr' → Sim E G L xs H1 Hr' → okL E locs' → W p l e R s m args below meth c Hr' locs' (cells + (nx H1 - nx H)) (slots + (su H1 - su H)) Q (F0 m pc' lr' (st'.map (conc E)))) : W p l e R s m args below meth c Hr locs cells slots Q (F0 m pc lr (st.map (conc E))) := by
  rcases st with _ | ⟨y | y, st⟩ <;> try (cases (show (none : Option ASR) = some (o, pc', ls', st', H1) from ha); done)
  change some _ = some _ at ha
  simp only [Option.some.injEq, Prod.mk.injEq] at ha
  obtain ⟨rfl, rfl, rfl, rfl, rfl⟩ := ha
  obtain ⟨rfl, rfl⟩ := lkI_16 hk
  refine lv_ineg (x := y) X.1 X.2.1 hd ?_
  exact W.widen (Nat.le_add_right _ _) (Nat.le_add_right _ _) (kk lr Hr locs hl hS hlo)
theorem ss_17 (X : Cx p m c meth s oc ini nL cc) (hK : Kf E G L xs s) (hR : 8 ≤ R.frames ∧ 600 ≤ R.locals) (hS : Sim E G L xs H Hr) (hl : LocR E nL ls lr) (hlo : okL E locs) (hd : decode cc pc = .ok (x, len)) (hk : lkI oc ini rt nL pc len (17, cst, a, b, tl) x = true) (ha : ast TXT (17, cst, a, b, tl) len pc ls st H = some (o, pc', ls', st', H1)) (ho : o.getD True) (hc : cells + (nx H1 - nx H) ≤ R.cells) (hs : slots + (su H1 - su H) ≤ R.slots)
    (kk : ∀ (lr' : Array Slot) (Hr' : Heap) (locs' : List Loc), LocR E nL ls' lr' → Sim E G L xs H1 Hr' → okL E locs' → W p l e R s m args below meth c Hr' locs' (cells + (nx H1 - nx H)) (slots + (su H1 - su H)) Q (F0 m pc' lr' (st'.map (conc E)))) : W p l e R s m args below meth c Hr locs cells slots Q (F0 m pc lr (st.map (conc E))) := by
  rcases st with _ | ⟨y | y, st⟩ <;> try (cases (show (none : Option ASR) = some (o, pc', ls', st', H1) from ha); done)
  change some _ = some _ at ha
  simp only [Option.some.injEq, Prod.mk.injEq] at ha
  obtain ⟨rfl, rfl, rfl, rfl, rfl⟩ := ha
  obtain ⟨rfl, rfl⟩ := lkI_17 hk
  refine lv_i2c (x := y) X.1 X.2.1 hd rfl ?_
  exact W.widen (Nat.le_add_right _ _) (Nat.le_add_right _ _) (kk lr Hr locs hl hS hlo)
theorem ss_20 (X : Cx p m c meth s oc ini nL cc) (hK : Kf E G L xs s) (hR : 8 ≤ R.frames ∧ 600 ≤ R.locals) (hS : Sim E G L xs H Hr) (hl : LocR E nL ls lr) (hlo : okL E locs) (hd : decode cc pc = .ok (x, len)) (hk : lkI oc ini rt nL pc len (20, cst, a, b, tl) x = true) (ha : ast TXT (20, cst, a, b, tl) len pc ls st H = some (o, pc', ls', st', H1)) (ho : o.getD True) (hc : cells + (nx H1 - nx H) ≤ R.cells) (hs : slots + (su H1 - su H) ≤ R.slots)
    (kk : ∀ (lr' : Array Slot) (Hr' : Heap) (locs' : List Loc), LocR E nL ls' lr' → Sim E G L xs H1 Hr' → okL E locs' → W p l e R s m args below meth c Hr' locs' (cells + (nx H1 - nx H)) (slots + (su H1 - su H)) Q (F0 m pc' lr' (st'.map (conc E)))) : W p l e R s m args below meth c Hr locs cells slots Q (F0 m pc lr (st.map (conc E))) := by
  rcases st with _ | ⟨y, st⟩ <;> try (cases (show (none : Option ASR) = some (o, pc', ls', st', H1) from ha); done)
  change some _ = some _ at ha
  simp only [Option.some.injEq, Prod.mk.injEq] at ha
  obtain ⟨rfl, rfl, rfl, rfl, rfl⟩ := ha
  obtain ⟨rfl, rfl⟩ := lkI_20 hk
  refine lv_dup (va := conc E y) X.1 X.2.1 hd (conc_cat E y) ?_
  exact W.widen (Nat.le_add_right _ _) (Nat.le_add_right _ _) (kk lr Hr locs hl hS hlo)
theorem ss_21 (X : Cx p m c meth s oc ini nL cc) (hK : Kf E G L xs s) (hR : 8 ≤ R.frames ∧ 600 ≤ R.locals) (hS : Sim E G L xs H Hr) (hl : LocR E nL ls lr) (hlo : okL E locs) (hd : decode cc pc = .ok (x, len)) (hk : lkI oc ini rt nL pc len (21, cst, a, b, tl) x = true) (ha : ast TXT (21, cst, a, b, tl) len pc ls st H = some (o, pc', ls', st', H1)) (ho : o.getD True) (hc : cells + (nx H1 - nx H) ≤ R.cells) (hs : slots + (su H1 - su H) ≤ R.slots)
    (kk : ∀ (lr' : Array Slot) (Hr' : Heap) (locs' : List Loc), LocR E nL ls' lr' → Sim E G L xs H1 Hr' → okL E locs' → W p l e R s m args below meth c Hr' locs' (cells + (nx H1 - nx H)) (slots + (su H1 - su H)) Q (F0 m pc' lr' (st'.map (conc E)))) : W p l e R s m args below meth c Hr locs cells slots Q (F0 m pc lr (st.map (conc E))) := by
  rcases st with _ | ⟨y, _ | ⟨x1, st⟩⟩ <;> try (cases (show (none : Option ASR) = some (o, pc', ls', st', H1) from ha); done)
  change some _ = some _ at ha
  simp only [Option.some.injEq, Prod.mk.injEq] at ha
  obtain ⟨rfl, rfl, rfl, rfl, rfl⟩ := ha
  obtain ⟨rfl, rfl⟩ := lkI_21 hk
  refine lv_dup_x1 (va := conc E y) (vb := conc E x1) X.1 X.2.1 hd (conc_cat E y) (conc_cat E x1) ?_
  exact W.widen (Nat.le_add_right _ _) (Nat.le_add_right _ _) (kk lr Hr locs hl hS hlo)
theorem ss_22 (X : Cx p m c meth s oc ini nL cc) (hK : Kf E G L xs s) (hR : 8 ≤ R.frames ∧ 600 ≤ R.locals) (hS : Sim E G L xs H Hr) (hl : LocR E nL ls lr) (hlo : okL E locs) (hd : decode cc pc = .ok (x, len)) (hk : lkI oc ini rt nL pc len (22, cst, a, b, tl) x = true) (ha : ast TXT (22, cst, a, b, tl) len pc ls st H = some (o, pc', ls', st', H1)) (ho : o.getD True) (hc : cells + (nx H1 - nx H) ≤ R.cells) (hs : slots + (su H1 - su H) ≤ R.slots)
    (kk : ∀ (lr' : Array Slot) (Hr' : Heap) (locs' : List Loc), LocR E nL ls' lr' → Sim E G L xs H1 Hr' → okL E locs' → W p l e R s m args below meth c Hr' locs' (cells + (nx H1 - nx H)) (slots + (su H1 - su H)) Q (F0 m pc' lr' (st'.map (conc E)))) : W p l e R s m args below meth c Hr locs cells slots Q (F0 m pc lr (st.map (conc E))) := by
  rcases st with _ | ⟨y, _ | ⟨x1, st⟩⟩ <;> try (cases (show (none : Option ASR) = some (o, pc', ls', st', H1) from ha); done)
  change some _ = some _ at ha
  simp only [Option.some.injEq, Prod.mk.injEq] at ha
  obtain ⟨rfl, rfl, rfl, rfl, rfl⟩ := ha
  obtain ⟨rfl, rfl⟩ := lkI_22 hk
  refine lv_dup2_11 (va := conc E y) (vb := conc E x1) X.1 X.2.1 hd (conc_cat E y) (conc_cat E x1) ?_
  exact W.widen (Nat.le_add_right _ _) (Nat.le_add_right _ _) (kk lr Hr locs hl hS hlo)
theorem ss_23 (X : Cx p m c meth s oc ini nL cc) (hK : Kf E G L xs s) (hR : 8 ≤ R.frames ∧ 600 ≤ R.locals) (hS : Sim E G L xs H Hr) (hl : LocR E nL ls lr) (hlo : okL E locs) (hd : decode cc pc = .ok (x, len)) (hk : lkI oc ini rt nL pc len (23, cst, a, b, tl) x = true) (ha : ast TXT (23, cst, a, b, tl) len pc ls st H = some (o, pc', ls', st', H1)) (ho : o.getD True) (hc : cells + (nx H1 - nx H) ≤ R.cells) (hs : slots + (su H1 - su H) ≤ R.slots)
    (kk : ∀ (lr' : Array Slot) (Hr' : Heap) (locs' : List Loc), LocR E nL ls' lr' → Sim E G L xs H1 Hr' → okL E locs' → W p l e R s m args below meth c Hr' locs' (cells + (nx H1 - nx H)) (slots + (su H1 - su H)) Q (F0 m pc' lr' (st'.map (conc E)))) : W p l e R s m args below meth c Hr locs cells slots Q (F0 m pc lr (st.map (conc E))) := by
  rcases st with _ | ⟨y, st⟩ <;> try (cases (show (none : Option ASR) = some (o, pc', ls', st', H1) from ha); done)
  change some _ = some _ at ha
  simp only [Option.some.injEq, Prod.mk.injEq] at ha
  obtain ⟨rfl, rfl, rfl, rfl, rfl⟩ := ha
  obtain ⟨rfl, rfl⟩ := lkI_23 hk
  refine lv_pop (va := conc E y) X.1 X.2.1 hd (conc_cat E y) ?_
  exact W.widen (Nat.le_add_right _ _) (Nat.le_add_right _ _) (kk lr Hr locs hl hS hlo)
end SMO
