section SMO
variable {p : Program} {l : Launch} {e : Env} {R : Room} {s : State} {m : MethodId} {args : Array Value} {below : List Frame} {meth : Method} {c : Code} {locs : List Loc} {cells slots : Nat} {Q : State → Prop}
variable {E : SE} {G : Heap} {L : Nat} {xs : Nat → Int32} {H H1 : AH} {Hr : Heap} {oc nL pc pc' len rt a b : Nat} {ini : Bool} {cc : ByteArray} {lr : Array Slot} {ls st ls' st' : List AV} {cst : Int32} {tl : List Nat} {o : Option Prop} {x : Instr}
theorem ss_30 (X : Cx p m c meth s oc ini nL cc) (hK : Kf E G L xs s) (hR : 8 ≤ R.frames ∧ 600 ≤ R.locals) (hS : Sim E G L xs H Hr) (hl : LocR E nL ls lr) (hlo : okL E locs) (hd : decode cc pc = .ok (x, len)) (hk : lkI oc ini rt nL pc len (30, cst, a, b, tl) x = true) (ha : ast TXT (30, cst, a, b, tl) len pc ls st H = some (o, pc', ls', st', H1)) (ho : o.getD True) (hc : cells + (nx H1 - nx H) ≤ R.cells) (hs : slots + (su H1 - su H) ≤ R.slots)
    (kk : ∀ (lr' : Array Slot) (Hr' : Heap) (locs' : List Loc), LocR E nL ls' lr' → Sim E G L xs H1 Hr' → okL E locs' → W p l e R s m args below meth c Hr' locs' (cells + (nx H1 - nx H)) (slots + (su H1 - su H)) Q (F0 m pc' lr' (st'.map (conc E)))) : W p l e R s m args below meth c Hr locs cells slots Q (F0 m pc lr (st.map (conc E))) := by
  rcases st with _ | ⟨y | (_ | r), st⟩ <;> try (cases (show (none : Option ASR) = some (o, pc', ls', st', H1) from ha); done)
  change some _ = some _ at ha
  simp only [Option.some.injEq, Prod.mk.injEq] at ha
  obtain ⟨rfl, rfl, rfl, rfl, rfl⟩ := ha
  obtain ⟨j, rfl, rfl, hj, hne⟩ := lkI_30 hk
  obtain ⟨f1, f2, f3⟩ := FLL_ok _ (lk2_mem hj)
  refine so_get X hK hS f1 f2 ho f3 hd ?_
  rw [show fldv E H a r b = .int (gi H r b) by unfold fldv; rw [if_pos (by unfold fI; exact decide_eq_true hne)]]
  exact W.widen (Nat.le_add_right _ _) (Nat.le_add_right _ _) (kk lr Hr locs hl hS hlo)
theorem ss_31 (X : Cx p m c meth s oc ini nL cc) (hK : Kf E G L xs s) (hR : 8 ≤ R.frames ∧ 600 ≤ R.locals) (hS : Sim E G L xs H Hr) (hl : LocR E nL ls lr) (hlo : okL E locs) (hd : decode cc pc = .ok (x, len)) (hk : lkI oc ini rt nL pc len (31, cst, a, b, tl) x = true) (ha : ast TXT (31, cst, a, b, tl) len pc ls st H = some (o, pc', ls', st', H1)) (ho : o.getD True) (hc : cells + (nx H1 - nx H) ≤ R.cells) (hs : slots + (su H1 - su H) ≤ R.slots)
    (kk : ∀ (lr' : Array Slot) (Hr' : Heap) (locs' : List Loc), LocR E nL ls' lr' → Sim E G L xs H1 Hr' → okL E locs' → W p l e R s m args below meth c Hr' locs' (cells + (nx H1 - nx H)) (slots + (su H1 - su H)) Q (F0 m pc' lr' (st'.map (conc E)))) : W p l e R s m args below meth c Hr locs cells slots Q (F0 m pc lr (st.map (conc E))) := by
  rcases st with _ | ⟨y | (_ | r), st⟩ <;> try (cases (show (none : Option ASR) = some (o, pc', ls', st', H1) from ha); done)
  change some _ = some _ at ha
  simp only [Option.some.injEq, Prod.mk.injEq] at ha
  obtain ⟨rfl, rfl, rfl, rfl, rfl⟩ := ha
  obtain ⟨j, rfl, rfl, hj, hne⟩ := lkI_31 hk
  obtain ⟨f1, f2, f3⟩ := FLL_ok _ (lk2_mem hj)
  refine so_get X hK hS f1 f2 ho f3 hd ?_
  rw [show fldv E H a r b = conc E (vR (gr H r b)) by unfold fldv; rw [if_neg (by unfold fI; rw [hne]; decide)]; rfl]
  exact W.widen (Nat.le_add_right _ _) (Nat.le_add_right _ _) (kk lr Hr locs hl hS hlo)
theorem ss_32 (X : Cx p m c meth s oc ini nL cc) (hK : Kf E G L xs s) (hR : 8 ≤ R.frames ∧ 600 ≤ R.locals) (hS : Sim E G L xs H Hr) (hl : LocR E nL ls lr) (hlo : okL E locs) (hd : decode cc pc = .ok (x, len)) (hk : lkI oc ini rt nL pc len (32, cst, a, b, tl) x = true) (ha : ast TXT (32, cst, a, b, tl) len pc ls st H = some (o, pc', ls', st', H1)) (ho : o.getD True) (hc : cells + (nx H1 - nx H) ≤ R.cells) (hs : slots + (su H1 - su H) ≤ R.slots)
    (kk : ∀ (lr' : Array Slot) (Hr' : Heap) (locs' : List Loc), LocR E nL ls' lr' → Sim E G L xs H1 Hr' → okL E locs' → W p l e R s m args below meth c Hr' locs' (cells + (nx H1 - nx H)) (slots + (su H1 - su H)) Q (F0 m pc' lr' (st'.map (conc E)))) : W p l e R s m args below meth c Hr locs cells slots Q (F0 m pc lr (st.map (conc E))) := by
  rcases st with _ | ⟨y | y, _ | ⟨x1 | (_ | r), st⟩⟩ <;> try (cases (show (none : Option ASR) = some (o, pc', ls', st', H1) from ha); done)
  change some _ = some _ at ha
  simp only [Option.some.injEq, Prod.mk.injEq] at ha
  obtain ⟨rfl, rfl, rfl, rfl, rfl⟩ := ha
  obtain ⟨j, rfl, rfl, hj, hc2, hc3, hfin⟩ := lkI_32 hk
  obtain ⟨f1, f2, f3⟩ := FLL_ok _ (lk2_mem hj)
  obtain ⟨ho1, ho2⟩ : (kd H r).1 = 20 + a ∧ sm_fits (tl.getD 1 0) y := ho
  obtain ⟨g1, g2⟩ := fit_int (v := y) ((cl_fld a f1 b f2).2.2.2) (by rw [hc2]; exact hc3) (by rw [hc2]; exact ho2)
  refine so_put (v := .int y) (H1 := si H r b y) X hK hS hlo f1 f2 ho1 f3 hd hfin g1 g2 nx_si (fun _ => kd_si) (fun q hq => ⟨gi_si_ne hq, rfl⟩) (fun k hk => ?_) fun Hr' locs' hS' hlo' => W.widen (Nat.le_add_right _ _) (Nat.le_add_right _ _) (kk lr Hr' locs' hl hS' hlo')
  unfold fldv
  rw [gi_si, gr_si]
  by_cases hkb : k = b
  · subst hkb
    rw [if_pos (by unfold fI; exact decide_eq_true (by rw [hc2]; omega)), if_pos ⟨rfl, rfl⟩, if_pos rfl]
  · rw [if_neg (fun q : r = r ∧ k = b => hkb q.2), if_neg hkb]
theorem ss_33 (X : Cx p m c meth s oc ini nL cc) (hK : Kf E G L xs s) (hR : 8 ≤ R.frames ∧ 600 ≤ R.locals) (hS : Sim E G L xs H Hr) (hl : LocR E nL ls lr) (hlo : okL E locs) (hd : decode cc pc = .ok (x, len)) (hk : lkI oc ini rt nL pc len (33, cst, a, b, tl) x = true) (ha : ast TXT (33, cst, a, b, tl) len pc ls st H = some (o, pc', ls', st', H1)) (ho : o.getD True) (hc : cells + (nx H1 - nx H) ≤ R.cells) (hs : slots + (su H1 - su H) ≤ R.slots)
    (kk : ∀ (lr' : Array Slot) (Hr' : Heap) (locs' : List Loc), LocR E nL ls' lr' → Sim E G L xs H1 Hr' → okL E locs' → W p l e R s m args below meth c Hr' locs' (cells + (nx H1 - nx H)) (slots + (su H1 - su H)) Q (F0 m pc' lr' (st'.map (conc E)))) : W p l e R s m args below meth c Hr locs cells slots Q (F0 m pc lr (st.map (conc E))) := by
  rcases st with _ | ⟨y | (_ | v), _ | ⟨x1 | (_ | r), st⟩⟩ <;> try (cases (show (none : Option ASR) = some (o, pc', ls', st', H1) from ha); done)
  change some _ = some _ at ha
  simp only [Option.some.injEq, Prod.mk.injEq] at ha
  obtain ⟨rfl, rfl, rfl, rfl, rfl⟩ := ha
  obtain ⟨j, rfl, rfl, hj, hc2, hfin⟩ := lkI_33 hk
  obtain ⟨f1, f2, f3⟩ := FLL_ok _ (lk2_mem hj)
  obtain ⟨g1, g2⟩ := fit_ref (E := E) (r := v) (((cl_fld a f1 b f2).2.2.2).trans hc2)
  refine so_put (v := conc E (vR v)) (H1 := sr H r b v) X hK hS hlo f1 f2 ho f3 hd hfin g1 g2 nx_sr (fun _ => kd_sr) (fun q hq => ⟨rfl, gr_sr_ne hq⟩) (fun k hk => ?_) fun Hr' locs' hS' hlo' => W.widen (Nat.le_add_right _ _) (Nat.le_add_right _ _) (kk lr Hr' locs' hl hS' hlo')
  unfold fldv
  rw [gi_sr, gr_sr]
  by_cases hkb : k = b
  · subst hkb
    rw [if_neg (by unfold fI; rw [hc2]; decide), if_pos ⟨rfl, rfl⟩, if_pos rfl]
    rfl
  · rw [if_neg (fun q : r = r ∧ k = b => hkb q.2), if_neg hkb]
theorem ss_34 (X : Cx p m c meth s oc ini nL cc) (hK : Kf E G L xs s) (hR : 8 ≤ R.frames ∧ 600 ≤ R.locals) (hS : Sim E G L xs H Hr) (hl : LocR E nL ls lr) (hlo : okL E locs) (hd : decode cc pc = .ok (x, len)) (hk : lkI oc ini rt nL pc len (34, cst, a, b, tl) x = true) (ha : ast TXT (34, cst, a, b, tl) len pc ls st H = some (o, pc', ls', st', H1)) (ho : o.getD True) (hc : cells + (nx H1 - nx H) ≤ R.cells) (hs : slots + (su H1 - su H) ≤ R.slots)
    (kk : ∀ (lr' : Array Slot) (Hr' : Heap) (locs' : List Loc), LocR E nL ls' lr' → Sim E G L xs H1 Hr' → okL E locs' → W p l e R s m args below meth c Hr' locs' (cells + (nx H1 - nx H)) (slots + (su H1 - su H)) Q (F0 m pc' lr' (st'.map (conc E)))) : W p l e R s m args below meth c Hr locs cells slots Q (F0 m pc lr (st.map (conc E))) := by
  rcases st with _ | ⟨y | y, _ | ⟨x1 | (_ | r), st⟩⟩ <;> try (cases (show (none : Option ASR) = some (o, pc', ls', st', H1) from ha); done)
  change some _ = some _ at ha
  simp only [Option.some.injEq, Prod.mk.injEq] at ha
  obtain ⟨rfl, rfl, rfl, rfl, rfl⟩ := ha
  obtain ⟨rfl, rfl⟩ := lkI_34 hk
  refine so_iald X hK hS ho.1 ho.2 hd ?_
  exact W.widen (Nat.le_add_right _ _) (Nat.le_add_right _ _) (kk lr Hr locs hl hS hlo)
theorem ss_35 (X : Cx p m c meth s oc ini nL cc) (hK : Kf E G L xs s) (hR : 8 ≤ R.frames ∧ 600 ≤ R.locals) (hS : Sim E G L xs H Hr) (hl : LocR E nL ls lr) (hlo : okL E locs) (hd : decode cc pc = .ok (x, len)) (hk : lkI oc ini rt nL pc len (35, cst, a, b, tl) x = true) (ha : ast TXT (35, cst, a, b, tl) len pc ls st H = some (o, pc', ls', st', H1)) (ho : o.getD True) (hc : cells + (nx H1 - nx H) ≤ R.cells) (hs : slots + (su H1 - su H) ≤ R.slots)
    (kk : ∀ (lr' : Array Slot) (Hr' : Heap) (locs' : List Loc), LocR E nL ls' lr' → Sim E G L xs H1 Hr' → okL E locs' → W p l e R s m args below meth c Hr' locs' (cells + (nx H1 - nx H)) (slots + (su H1 - su H)) Q (F0 m pc' lr' (st'.map (conc E)))) : W p l e R s m args below meth c Hr locs cells slots Q (F0 m pc lr (st.map (conc E))) := by
  rcases st with _ | ⟨y | y, _ | ⟨x1 | (_ | r), st⟩⟩ <;> try (cases (show (none : Option ASR) = some (o, pc', ls', st', H1) from ha); done)
  change some _ = some _ at ha
  simp only [Option.some.injEq, Prod.mk.injEq] at ha
  obtain ⟨rfl, rfl, rfl, rfl, rfl⟩ := ha
  obtain ⟨rfl, rfl⟩ := lkI_35 hk
  refine so_cald X hK hS ho.1 ho.2 hd ?_
  exact W.widen (Nat.le_add_right _ _) (Nat.le_add_right _ _) (kk lr Hr locs hl hS hlo)
theorem ss_36 (X : Cx p m c meth s oc ini nL cc) (hK : Kf E G L xs s) (hR : 8 ≤ R.frames ∧ 600 ≤ R.locals) (hS : Sim E G L xs H Hr) (hl : LocR E nL ls lr) (hlo : okL E locs) (hd : decode cc pc = .ok (x, len)) (hk : lkI oc ini rt nL pc len (36, cst, a, b, tl) x = true) (ha : ast TXT (36, cst, a, b, tl) len pc ls st H = some (o, pc', ls', st', H1)) (ho : o.getD True) (hc : cells + (nx H1 - nx H) ≤ R.cells) (hs : slots + (su H1 - su H) ≤ R.slots)
    (kk : ∀ (lr' : Array Slot) (Hr' : Heap) (locs' : List Loc), LocR E nL ls' lr' → Sim E G L xs H1 Hr' → okL E locs' → W p l e R s m args below meth c Hr' locs' (cells + (nx H1 - nx H)) (slots + (su H1 - su H)) Q (F0 m pc' lr' (st'.map (conc E)))) : W p l e R s m args below meth c Hr locs cells slots Q (F0 m pc lr (st.map (conc E))) := by
  rcases st with _ | ⟨y | y, _ | ⟨x1 | (_ | r), st⟩⟩ <;> try (cases (show (none : Option ASR) = some (o, pc', ls', st', H1) from ha); done)
  change some _ = some _ at ha
  simp only [Option.some.injEq, Prod.mk.injEq] at ha
  obtain ⟨rfl, rfl, rfl, rfl, rfl⟩ := ha
  obtain ⟨rfl, rfl⟩ := lkI_36 hk
  refine so_zald X hK hS ho.1 ho.2 hd ?_
  exact W.widen (Nat.le_add_right _ _) (Nat.le_add_right _ _) (kk lr Hr locs hl hS hlo)
theorem ss_37 (X : Cx p m c meth s oc ini nL cc) (hK : Kf E G L xs s) (hR : 8 ≤ R.frames ∧ 600 ≤ R.locals) (hS : Sim E G L xs H Hr) (hl : LocR E nL ls lr) (hlo : okL E locs) (hd : decode cc pc = .ok (x, len)) (hk : lkI oc ini rt nL pc len (37, cst, a, b, tl) x = true) (ha : ast TXT (37, cst, a, b, tl) len pc ls st H = some (o, pc', ls', st', H1)) (ho : o.getD True) (hc : cells + (nx H1 - nx H) ≤ R.cells) (hs : slots + (su H1 - su H) ≤ R.slots)
    (kk : ∀ (lr' : Array Slot) (Hr' : Heap) (locs' : List Loc), LocR E nL ls' lr' → Sim E G L xs H1 Hr' → okL E locs' → W p l e R s m args below meth c Hr' locs' (cells + (nx H1 - nx H)) (slots + (su H1 - su H)) Q (F0 m pc' lr' (st'.map (conc E)))) : W p l e R s m args below meth c Hr locs cells slots Q (F0 m pc lr (st.map (conc E))) := by
  rcases st with _ | ⟨y | y, _ | ⟨x1 | (_ | r), st⟩⟩ <;> try (cases (show (none : Option ASR) = some (o, pc', ls', st', H1) from ha); done)
  change some _ = some _ at ha
  simp only [Option.some.injEq, Prod.mk.injEq] at ha
  obtain ⟨rfl, rfl, rfl, rfl, rfl⟩ := ha
  obtain ⟨rfl, rfl, hr⟩ := lkI_37 hk
  refine so_aald X hK hS hr ho.1 ho.2 hd ?_
  exact W.widen (Nat.le_add_right _ _) (Nat.le_add_right _ _) (kk lr Hr locs hl hS hlo)
theorem ss_38 (X : Cx p m c meth s oc ini nL cc) (hK : Kf E G L xs s) (hR : 8 ≤ R.frames ∧ 600 ≤ R.locals) (hS : Sim E G L xs H Hr) (hl : LocR E nL ls lr) (hlo : okL E locs) (hd : decode cc pc = .ok (x, len)) (hk : lkI oc ini rt nL pc len (38, cst, a, b, tl) x = true) (ha : ast TXT (38, cst, a, b, tl) len pc ls st H = some (o, pc', ls', st', H1)) (ho : o.getD True) (hc : cells + (nx H1 - nx H) ≤ R.cells) (hs : slots + (su H1 - su H) ≤ R.slots)
    (kk : ∀ (lr' : Array Slot) (Hr' : Heap) (locs' : List Loc), LocR E nL ls' lr' → Sim E G L xs H1 Hr' → okL E locs' → W p l e R s m args below meth c Hr' locs' (cells + (nx H1 - nx H)) (slots + (su H1 - su H)) Q (F0 m pc' lr' (st'.map (conc E)))) : W p l e R s m args below meth c Hr locs cells slots Q (F0 m pc lr (st.map (conc E))) := by
  rcases st with _ | ⟨y | y, _ | ⟨j | j, _ | ⟨x1 | (_ | r), st⟩⟩⟩ <;> try (cases (show (none : Option ASR) = some (o, pc', ls', st', H1) from ha); done)
  change some _ = some _ at ha
  simp only [Option.some.injEq, Prod.mk.injEq] at ha
  obtain ⟨rfl, rfl, rfl, rfl, rfl⟩ := ha
  obtain ⟨rfl, rfl⟩ := lkI_38 hk
  exact so_iast X hK hS hlo ho.1 ho.2 hd fun Hr' locs' hS' hlo' => W.widen (Nat.le_add_right _ _) (Nat.le_add_right _ _) (kk lr Hr' locs' hl hS' hlo')
theorem ss_39 (X : Cx p m c meth s oc ini nL cc) (hK : Kf E G L xs s) (hR : 8 ≤ R.frames ∧ 600 ≤ R.locals) (hS : Sim E G L xs H Hr) (hl : LocR E nL ls lr) (hlo : okL E locs) (hd : decode cc pc = .ok (x, len)) (hk : lkI oc ini rt nL pc len (39, cst, a, b, tl) x = true) (ha : ast TXT (39, cst, a, b, tl) len pc ls st H = some (o, pc', ls', st', H1)) (ho : o.getD True) (hc : cells + (nx H1 - nx H) ≤ R.cells) (hs : slots + (su H1 - su H) ≤ R.slots)
    (kk : ∀ (lr' : Array Slot) (Hr' : Heap) (locs' : List Loc), LocR E nL ls' lr' → Sim E G L xs H1 Hr' → okL E locs' → W p l e R s m args below meth c Hr' locs' (cells + (nx H1 - nx H)) (slots + (su H1 - su H)) Q (F0 m pc' lr' (st'.map (conc E)))) : W p l e R s m args below meth c Hr locs cells slots Q (F0 m pc lr (st.map (conc E))) := by
  rcases st with _ | ⟨y | y, _ | ⟨j | j, _ | ⟨x1 | (_ | r), st⟩⟩⟩ <;> try (cases (show (none : Option ASR) = some (o, pc', ls', st', H1) from ha); done)
  change some _ = some _ at ha
  simp only [Option.some.injEq, Prod.mk.injEq] at ha
  obtain ⟨rfl, rfl, rfl, rfl, rfl⟩ := ha
  obtain ⟨rfl, rfl⟩ := lkI_39 hk
  exact so_cast X hK hS hlo ho.1 ho.2 hd fun Hr' locs' hS' hlo' => W.widen (Nat.le_add_right _ _) (Nat.le_add_right _ _) (kk lr Hr' locs' hl hS' hlo')
theorem ss_40 (X : Cx p m c meth s oc ini nL cc) (hK : Kf E G L xs s) (hR : 8 ≤ R.frames ∧ 600 ≤ R.locals) (hS : Sim E G L xs H Hr) (hl : LocR E nL ls lr) (hlo : okL E locs) (hd : decode cc pc = .ok (x, len)) (hk : lkI oc ini rt nL pc len (40, cst, a, b, tl) x = true) (ha : ast TXT (40, cst, a, b, tl) len pc ls st H = some (o, pc', ls', st', H1)) (ho : o.getD True) (hc : cells + (nx H1 - nx H) ≤ R.cells) (hs : slots + (su H1 - su H) ≤ R.slots)
    (kk : ∀ (lr' : Array Slot) (Hr' : Heap) (locs' : List Loc), LocR E nL ls' lr' → Sim E G L xs H1 Hr' → okL E locs' → W p l e R s m args below meth c Hr' locs' (cells + (nx H1 - nx H)) (slots + (su H1 - su H)) Q (F0 m pc' lr' (st'.map (conc E)))) : W p l e R s m args below meth c Hr locs cells slots Q (F0 m pc lr (st.map (conc E))) := by
  rcases st with _ | ⟨y | y, _ | ⟨j | j, _ | ⟨x1 | (_ | r), st⟩⟩⟩ <;> try (cases (show (none : Option ASR) = some (o, pc', ls', st', H1) from ha); done)
  change some _ = some _ at ha
  simp only [Option.some.injEq, Prod.mk.injEq] at ha
  obtain ⟨rfl, rfl, rfl, rfl, rfl⟩ := ha
  obtain ⟨rfl, rfl⟩ := lkI_40 hk
  exact so_zast X hK hS hlo ho.1 ho.2 hd fun Hr' locs' hS' hlo' => W.widen (Nat.le_add_right _ _) (Nat.le_add_right _ _) (kk lr Hr' locs' hl hS' hlo')
theorem ss_41 (X : Cx p m c meth s oc ini nL cc) (hK : Kf E G L xs s) (hR : 8 ≤ R.frames ∧ 600 ≤ R.locals) (hS : Sim E G L xs H Hr) (hl : LocR E nL ls lr) (hlo : okL E locs) (hd : decode cc pc = .ok (x, len)) (hk : lkI oc ini rt nL pc len (41, cst, a, b, tl) x = true) (ha : ast TXT (41, cst, a, b, tl) len pc ls st H = some (o, pc', ls', st', H1)) (ho : o.getD True) (hc : cells + (nx H1 - nx H) ≤ R.cells) (hs : slots + (su H1 - su H) ≤ R.slots)
    (kk : ∀ (lr' : Array Slot) (Hr' : Heap) (locs' : List Loc), LocR E nL ls' lr' → Sim E G L xs H1 Hr' → okL E locs' → W p l e R s m args below meth c Hr' locs' (cells + (nx H1 - nx H)) (slots + (su H1 - su H)) Q (F0 m pc' lr' (st'.map (conc E)))) : W p l e R s m args below meth c Hr locs cells slots Q (F0 m pc lr (st.map (conc E))) := by
  rcases st with _ | ⟨y | (_ | v), _ | ⟨j | j, _ | ⟨x1 | (_ | r), st⟩⟩⟩ <;> try (cases (show (none : Option ASR) = some (o, pc', ls', st', H1) from ha); done)
  change some _ = some _ at ha
  simp only [Option.some.injEq, Prod.mk.injEq] at ha
  obtain ⟨rfl, rfl, rfl, rfl, rfl⟩ := ha
  obtain ⟨rfl, rfl, hr⟩ := lkI_41 hk
  exact so_aast X hK hS hlo hr ho.1 ho.2.1 ho.2.2 hd fun Hr' locs' hS' hlo' => W.widen (Nat.le_add_right _ _) (Nat.le_add_right _ _) (kk lr Hr' locs' hl hS' hlo')
theorem ss_42 (X : Cx p m c meth s oc ini nL cc) (hK : Kf E G L xs s) (hR : 8 ≤ R.frames ∧ 600 ≤ R.locals) (hS : Sim E G L xs H Hr) (hl : LocR E nL ls lr) (hlo : okL E locs) (hd : decode cc pc = .ok (x, len)) (hk : lkI oc ini rt nL pc len (42, cst, a, b, tl) x = true) (ha : ast TXT (42, cst, a, b, tl) len pc ls st H = some (o, pc', ls', st', H1)) (ho : o.getD True) (hc : cells + (nx H1 - nx H) ≤ R.cells) (hs : slots + (su H1 - su H) ≤ R.slots)
    (kk : ∀ (lr' : Array Slot) (Hr' : Heap) (locs' : List Loc), LocR E nL ls' lr' → Sim E G L xs H1 Hr' → okL E locs' → W p l e R s m args below meth c Hr' locs' (cells + (nx H1 - nx H)) (slots + (su H1 - su H)) Q (F0 m pc' lr' (st'.map (conc E)))) : W p l e R s m args below meth c Hr locs cells slots Q (F0 m pc lr (st.map (conc E))) := by
  rcases st with _ | ⟨y | y, st⟩ <;> try (cases (show (none : Option ASR) = some (o, pc', ls', st', H1) from ha); done)
  change some _ = some _ at ha
  simp only [Option.some.injEq, Prod.mk.injEq] at ha
  obtain ⟨rfl, rfl, rfl, rfl, rfl⟩ := ha
  obtain ⟨rfl, t, rfl, ht⟩ := lkI_42 hk
  rw [nx_al] at hc kk
  rw [su_al] at hs kk
  refine so_newa X hK hS ht ho.1 rfl ho.2 hd (by omega) (by omega) fun Hr' hS' => W.widen (by omega) (by omega) (kk lr Hr' locs hl hS' hlo)
theorem ss_43 (X : Cx p m c meth s oc ini nL cc) (hK : Kf E G L xs s) (hR : 8 ≤ R.frames ∧ 600 ≤ R.locals) (hS : Sim E G L xs H Hr) (hl : LocR E nL ls lr) (hlo : okL E locs) (hd : decode cc pc = .ok (x, len)) (hk : lkI oc ini rt nL pc len (43, cst, a, b, tl) x = true) (ha : ast TXT (43, cst, a, b, tl) len pc ls st H = some (o, pc', ls', st', H1)) (ho : o.getD True) (hc : cells + (nx H1 - nx H) ≤ R.cells) (hs : slots + (su H1 - su H) ≤ R.slots)
    (kk : ∀ (lr' : Array Slot) (Hr' : Heap) (locs' : List Loc), LocR E nL ls' lr' → Sim E G L xs H1 Hr' → okL E locs' → W p l e R s m args below meth c Hr' locs' (cells + (nx H1 - nx H)) (slots + (su H1 - su H)) Q (F0 m pc' lr' (st'.map (conc E)))) : W p l e R s m args below meth c Hr locs cells slots Q (F0 m pc lr (st.map (conc E))) := by
  rcases st with _ | ⟨y | y, st⟩ <;> try (cases (show (none : Option ASR) = some (o, pc', ls', st', H1) from ha); done)
  change some _ = some _ at ha
  simp only [Option.some.injEq, Prod.mk.injEq] at ha
  obtain ⟨rfl, rfl, rfl, rfl, rfl⟩ := ha
  obtain ⟨j, rfl, rfl, hj, hr⟩ := lkI_43 hk
  rw [nx_al] at hc kk
  rw [su_al] at hs kk
  refine so_anew X hK hS hr (CLL_ok _ (lk2_mem hj)).2.1 ho.1 rfl ho.2 hd (by omega) (by omega) fun Hr' hS' => W.widen (by omega) (by omega) (kk lr Hr' locs hl hS' hlo)
theorem ss_44 (X : Cx p m c meth s oc ini nL cc) (hK : Kf E G L xs s) (hR : 8 ≤ R.frames ∧ 600 ≤ R.locals) (hS : Sim E G L xs H Hr) (hl : LocR E nL ls lr) (hlo : okL E locs) (hd : decode cc pc = .ok (x, len)) (hk : lkI oc ini rt nL pc len (44, cst, a, b, tl) x = true) (ha : ast TXT (44, cst, a, b, tl) len pc ls st H = some (o, pc', ls', st', H1)) (ho : o.getD True) (hc : cells + (nx H1 - nx H) ≤ R.cells) (hs : slots + (su H1 - su H) ≤ R.slots)
    (kk : ∀ (lr' : Array Slot) (Hr' : Heap) (locs' : List Loc), LocR E nL ls' lr' → Sim E G L xs H1 Hr' → okL E locs' → W p l e R s m args below meth c Hr' locs' (cells + (nx H1 - nx H)) (slots + (su H1 - su H)) Q (F0 m pc' lr' (st'.map (conc E)))) : W p l e R s m args below meth c Hr locs cells slots Q (F0 m pc lr (st.map (conc E))) := by
  change some _ = some _ at ha
  simp only [Option.some.injEq, Prod.mk.injEq] at ha
  obtain ⟨rfl, rfl, rfl, rfl, rfl⟩ := ha
  obtain ⟨j, rfl, rfl, hj, rfl⟩ := lkI_44 hk
  rw [nx_al] at hc kk
  rw [su_al] at hs kk
  obtain ⟨f1, f2, f3, f4⟩ : a < nC ∧ Cond.classLink (cN oc) j (cN a) ∈ lw_tbl ∧ Cond.instantiable (cN a) (fN a) ∈ lw_tbl ∧ Cond.initialized (cN a) ∈ lw_tbl := CLL_ok (oc, j, a) (lk2_mem hj)
  refine so_newc X hK hS f1 f2 f3 f4 hd (by omega) (by omega) fun Hr' hS' => W.widen (by omega) (by omega) (kk lr Hr' locs hl hS' hlo)
theorem ss_45 (X : Cx p m c meth s oc ini nL cc) (hK : Kf E G L xs s) (hR : 8 ≤ R.frames ∧ 600 ≤ R.locals) (hS : Sim E G L xs H Hr) (hl : LocR E nL ls lr) (hlo : okL E locs) (hd : decode cc pc = .ok (x, len)) (hk : lkI oc ini rt nL pc len (45, cst, a, b, tl) x = true) (ha : ast TXT (45, cst, a, b, tl) len pc ls st H = some (o, pc', ls', st', H1)) (ho : o.getD True) (hc : cells + (nx H1 - nx H) ≤ R.cells) (hs : slots + (su H1 - su H) ≤ R.slots)
    (kk : ∀ (lr' : Array Slot) (Hr' : Heap) (locs' : List Loc), LocR E nL ls' lr' → Sim E G L xs H1 Hr' → okL E locs' → W p l e R s m args below meth c Hr' locs' (cells + (nx H1 - nx H)) (slots + (su H1 - su H)) Q (F0 m pc' lr' (st'.map (conc E)))) : W p l e R s m args below meth c Hr locs cells slots Q (F0 m pc lr (st.map (conc E))) := by
  rcases st with _ | ⟨y | (_ | r), st⟩ <;> try (cases (show (none : Option ASR) = some (o, pc', ls', st', H1) from ha); done)
  change some _ = some _ at ha
  simp only [Option.some.injEq, Prod.mk.injEq] at ha
  obtain ⟨rfl, rfl, rfl, rfl, rfl⟩ := ha
  obtain ⟨rfl, rfl⟩ := lkI_45 hk
  obtain ⟨-, -, -, -, -, hX, hB, hG, -⟩ := hK
  have hr : r = 1 := hS.2.2.2.1.four ho
  subst hr
  have hcr : conc E (vR 1) = .ref (eB E) := by rw [conc_R E (by decide)]; unfold ad; rw [if_pos rfl]
  have hL : (kd H 1).2 = L := by rw [hS.2.2.2.1.2.2.1]
  show W _ _ _ _ _ _ _ _ _ _ _ _ _ _ _ (F0 m pc lr (conc E (vR 1) :: st.map (conc E)))
  rw [hcr]
  refine va_slen (A := fun q => eS E ≤ q) X.1 X.2.1 hX (by rw [hG]; exact hB) (by omega) (hS.vaS hG hlo) hd ?_
  rw [← hL]
  exact W.widen (Nat.le_add_right _ _) (Nat.le_add_right _ _) (kk lr Hr locs hl hS hlo)
theorem ss_46 (X : Cx p m c meth s oc ini nL cc) (hK : Kf E G L xs s) (hR : 8 ≤ R.frames ∧ 600 ≤ R.locals) (hS : Sim E G L xs H Hr) (hl : LocR E nL ls lr) (hlo : okL E locs) (hd : decode cc pc = .ok (x, len)) (hk : lkI oc ini rt nL pc len (46, cst, a, b, tl) x = true) (ha : ast TXT (46, cst, a, b, tl) len pc ls st H = some (o, pc', ls', st', H1)) (ho : o.getD True) (hc : cells + (nx H1 - nx H) ≤ R.cells) (hs : slots + (su H1 - su H) ≤ R.slots)
    (kk : ∀ (lr' : Array Slot) (Hr' : Heap) (locs' : List Loc), LocR E nL ls' lr' → Sim E G L xs H1 Hr' → okL E locs' → W p l e R s m args below meth c Hr' locs' (cells + (nx H1 - nx H)) (slots + (su H1 - su H)) Q (F0 m pc' lr' (st'.map (conc E)))) : W p l e R s m args below meth c Hr locs cells slots Q (F0 m pc lr (st.map (conc E))) := by
  rcases st with _ | ⟨y | y, _ | ⟨x1 | (_ | r), st⟩⟩ <;> try (cases (show (none : Option ASR) = some (o, pc', ls', st', H1) from ha); done)
  change some _ = some _ at ha
  simp only [Option.some.injEq, Prod.mk.injEq] at ha
  obtain ⟨rfl, rfl, rfl, rfl, rfl⟩ := ha
  obtain ⟨rfl, rfl⟩ := lkI_46 hk
  obtain ⟨ho1, ho2⟩ : (kd H r).1 = 4 ∧ vp_in y (kd H r).2 := ho
  obtain ⟨-, -, -, -, -, hX, hB, hG, -⟩ := hK
  have hr : r = 1 := hS.2.2.2.1.four ho1
  subst hr
  have hcr : conc E (vR 1) = .ref (eB E) := by rw [conc_R E (by decide)]; unfold ad; rw [if_pos rfl]
  have hL : (kd H 1).2 = L := by rw [hS.2.2.2.1.2.2.1]
  show W _ _ _ _ _ _ _ _ _ _ _ _ _ _ _ (F0 m pc lr (.int y :: conc E (vR 1) :: st.map (conc E)))
  rw [hcr]
  rw [hL] at ho2
  refine va_sld (A := fun q => eS E ≤ q) X.1 X.2.1 hX (by rw [hG]; exact hB) (by omega) (hS.vaS hG hlo) ho2 hd ?_
  rw [← hS.2.2.2.2.1 _ (in_lt ho2)]
  exact W.widen (Nat.le_add_right _ _) (Nat.le_add_right _ _) (kk lr Hr locs hl hS hlo)
theorem ss_47 (X : Cx p m c meth s oc ini nL cc) (hK : Kf E G L xs s) (hR : 8 ≤ R.frames ∧ 600 ≤ R.locals) (hS : Sim E G L xs H Hr) (hl : LocR E nL ls lr) (hlo : okL E locs) (hd : decode cc pc = .ok (x, len)) (hk : lkI oc ini rt nL pc len (47, cst, a, b, tl) x = true) (ha : ast TXT (47, cst, a, b, tl) len pc ls st H = some (o, pc', ls', st', H1)) (ho : o.getD True) (hc : cells + (nx H1 - nx H) ≤ R.cells) (hs : slots + (su H1 - su H) ≤ R.slots)
    (kk : ∀ (lr' : Array Slot) (Hr' : Heap) (locs' : List Loc), LocR E nL ls' lr' → Sim E G L xs H1 Hr' → okL E locs' → W p l e R s m args below meth c Hr' locs' (cells + (nx H1 - nx H)) (slots + (su H1 - su H)) Q (F0 m pc' lr' (st'.map (conc E)))) : W p l e R s m args below meth c Hr locs cells slots Q (F0 m pc lr (st.map (conc E))) := by
  change some _ = some _ at ha
  simp only [Option.some.injEq, Prod.mk.injEq] at ha
  obtain ⟨rfl, rfl, rfl, rfl, rfl⟩ := ha
  obtain ⟨off, rfl, rfl, hoff⟩ := lkI_47 hk
  refine lv_goto X.1 X.2.1 hd hoff ?_
  exact W.widen (Nat.le_add_right _ _) (Nat.le_add_right _ _) (kk lr Hr locs hl hS hlo)
theorem ss_48 (X : Cx p m c meth s oc ini nL cc) (hK : Kf E G L xs s) (hR : 8 ≤ R.frames ∧ 600 ≤ R.locals) (hS : Sim E G L xs H Hr) (hl : LocR E nL ls lr) (hlo : okL E locs) (hd : decode cc pc = .ok (x, len)) (hk : lkI oc ini rt nL pc len (48, cst, a, b, tl) x = true) (ha : ast TXT (48, cst, a, b, tl) len pc ls st H = some (o, pc', ls', st', H1)) (ho : o.getD True) (hc : cells + (nx H1 - nx H) ≤ R.cells) (hs : slots + (su H1 - su H) ≤ R.slots)
    (kk : ∀ (lr' : Array Slot) (Hr' : Heap) (locs' : List Loc), LocR E nL ls' lr' → Sim E G L xs H1 Hr' → okL E locs' → W p l e R s m args below meth c Hr' locs' (cells + (nx H1 - nx H)) (slots + (su H1 - su H)) Q (F0 m pc' lr' (st'.map (conc E)))) : W p l e R s m args below meth c Hr locs cells slots Q (F0 m pc lr (st.map (conc E))) := by
  change some _ = some _ at ha
  simp only [Option.some.injEq, Prod.mk.injEq] at ha
  obtain ⟨rfl, rfl, rfl, rfl, rfl⟩ := ha
  obtain ⟨j, rfl, rfl, hj⟩ := lkI_48 hk
  have hm := lk2_mem hj
  have hlt : a < nS := SLL_ok (oc, j, a) hm
  have hk0 : K0 = 2 + nS := by decide
  have hcr : conc E (vR (2 + a)) = .ref (eK E a) := by
    rw [conc_R E (by omega)]
    unfold ad
    rw [if_neg (by omega), if_pos (by omega), show 2 + a - 2 = a by omega]
  have k2 : W p l e R s m args below meth c Hr locs cells slots Q (F0 m (pc + 2) lr (conc E (vR (2 + a)) :: st.map (conc E))) := W.widen (Nat.le_add_right _ _) (Nat.le_add_right _ _) (kk lr Hr locs hl hS hlo)
  rw [hcr] at k2
  have hz : vk_R (cN oc) j (stx a) (eK E a) s := hK.2.2.2.2.1 (oc, j, a) hm
  exact va_ldcS X.1 X.2.1 X.2.2.2.1 hz hd k2
theorem ss_49 (X : Cx p m c meth s oc ini nL cc) (hK : Kf E G L xs s) (hR : 8 ≤ R.frames ∧ 600 ≤ R.locals) (hS : Sim E G L xs H Hr) (hl : LocR E nL ls lr) (hlo : okL E locs) (hd : decode cc pc = .ok (x, len)) (hk : lkI oc ini rt nL pc len (49, cst, a, b, tl) x = true) (ha : ast TXT (49, cst, a, b, tl) len pc ls st H = some (o, pc', ls', st', H1)) (ho : o.getD True) (hc : cells + (nx H1 - nx H) ≤ R.cells) (hs : slots + (su H1 - su H) ≤ R.slots)
    (kk : ∀ (lr' : Array Slot) (Hr' : Heap) (locs' : List Loc), LocR E nL ls' lr' → Sim E G L xs H1 Hr' → okL E locs' → W p l e R s m args below meth c Hr' locs' (cells + (nx H1 - nx H)) (slots + (su H1 - su H)) Q (F0 m pc' lr' (st'.map (conc E)))) : W p l e R s m args below meth c Hr locs cells slots Q (F0 m pc lr (st.map (conc E))) := by
  rcases st with _ | ⟨y | y, _ | ⟨x1 | x1, st⟩⟩ <;> try (cases (show (none : Option ASR) = some (o, pc', ls', st', H1) from ha); done)
  change some _ = some _ at ha
  simp only [Option.some.injEq, Prod.mk.injEq] at ha
  obtain ⟨rfl, rfl, rfl, rfl, rfl⟩ := ha
  obtain ⟨j, rfl, rfl, hj⟩ := lkI_49 hk
  have ho : st.length ≤ 8 := ho
  refine va_mmin X.1 X.2.1 (X.2.2.1.trans hl.2.1.symm) X.2.2.2.1 (hK.1 _ (MLL_min _ (lk2_mem hj) rfl) rfl args) (hK.1 _ MX_min.1 rfl args) (hK.1 _ MX_min.2.1 rfl args) (hK.1 _ MX_min.2.2 rfl args) (by omega) (by rw [sum_cat]; omega) (by omega) (by omega) hd ?_
  exact W.widen (Nat.le_add_right _ _) (Nat.le_add_right _ _) (kk lr Hr locs hl hS hlo)
theorem ss_50 (X : Cx p m c meth s oc ini nL cc) (hK : Kf E G L xs s) (hR : 8 ≤ R.frames ∧ 600 ≤ R.locals) (hS : Sim E G L xs H Hr) (hl : LocR E nL ls lr) (hlo : okL E locs) (hd : decode cc pc = .ok (x, len)) (hk : lkI oc ini rt nL pc len (50, cst, a, b, tl) x = true) (ha : ast TXT (50, cst, a, b, tl) len pc ls st H = some (o, pc', ls', st', H1)) (ho : o.getD True) (hc : cells + (nx H1 - nx H) ≤ R.cells) (hs : slots + (su H1 - su H) ≤ R.slots)
    (kk : ∀ (lr' : Array Slot) (Hr' : Heap) (locs' : List Loc), LocR E nL ls' lr' → Sim E G L xs H1 Hr' → okL E locs' → W p l e R s m args below meth c Hr' locs' (cells + (nx H1 - nx H)) (slots + (su H1 - su H)) Q (F0 m pc' lr' (st'.map (conc E)))) : W p l e R s m args below meth c Hr locs cells slots Q (F0 m pc lr (st.map (conc E))) := by
  rcases st with _ | ⟨y | y, _ | ⟨x1 | x1, st⟩⟩ <;> try (cases (show (none : Option ASR) = some (o, pc', ls', st', H1) from ha); done)
  change some _ = some _ at ha
  simp only [Option.some.injEq, Prod.mk.injEq] at ha
  obtain ⟨rfl, rfl, rfl, rfl, rfl⟩ := ha
  obtain ⟨j, rfl, rfl, hj⟩ := lkI_50 hk
  have ho : st.length ≤ 8 := ho
  refine va_mmax X.1 X.2.1 (X.2.2.1.trans hl.2.1.symm) X.2.2.2.1 (hK.1 _ (MLL_max _ (lk2_mem hj) rfl) rfl args) (hK.1 _ MX_max.1 rfl args) (hK.1 _ MX_max.2.1 rfl args) (hK.1 _ MX_max.2.2 rfl args) (by omega) (by rw [sum_cat]; omega) (by omega) (by omega) hd ?_
  exact W.widen (Nat.le_add_right _ _) (Nat.le_add_right _ _) (kk lr Hr locs hl hS hlo)
theorem ss_51 (X : Cx p m c meth s oc ini nL cc) (hK : Kf E G L xs s) (hR : 8 ≤ R.frames ∧ 600 ≤ R.locals) (hS : Sim E G L xs H Hr) (hl : LocR E nL ls lr) (hlo : okL E locs) (hd : decode cc pc = .ok (x, len)) (hk : lkI oc ini rt nL pc len (51, cst, a, b, tl) x = true) (ha : ast TXT (51, cst, a, b, tl) len pc ls st H = some (o, pc', ls', st', H1)) (ho : o.getD True) (hc : cells + (nx H1 - nx H) ≤ R.cells) (hs : slots + (su H1 - su H) ≤ R.slots)
    (kk : ∀ (lr' : Array Slot) (Hr' : Heap) (locs' : List Loc), LocR E nL ls' lr' → Sim E G L xs H1 Hr' → okL E locs' → W p l e R s m args below meth c Hr' locs' (cells + (nx H1 - nx H)) (slots + (su H1 - su H)) Q (F0 m pc' lr' (st'.map (conc E)))) : W p l e R s m args below meth c Hr locs cells slots Q (F0 m pc lr (st.map (conc E))) := by
  rcases st with _ | ⟨n | n, _ | ⟨q | q, _ | ⟨z | (_ | r), _ | ⟨p0 | p0, _ | ⟨w | (_ | v), st⟩⟩⟩⟩⟩ <;> try (cases (show (none : Option ASR) = some (o, pc', ls', st', H1) from ha); done)
  change some _ = some _ at ha
  simp only [Option.some.injEq, Prod.mk.injEq] at ha
  obtain ⟨rfl, rfl, rfl, rfl, rfl⟩ := ha
  obtain ⟨j, rfl, rfl, hj⟩ := lkI_51 hk
  obtain ⟨h8, h1, h2, h3, h4, h5, h6, h7⟩ : st.length ≤ 8 ∧ (kd H v).1 = 2 ∧ (kd H r).1 = 2 ∧ ¬ p0 < 0 ∧ ¬ q < 0 ∧ ¬ n < 0 ∧ p0.toNatClampNeg + n.toNatClampNeg ≤ (kd H v).2 ∧ q.toNatClampNeg + n.toNatClampNeg ≤ (kd H r).2 := ho
  exact so_copy X hK hR hS hl.2.1 hlo h8 (lk2_mem hj) h1 h2 h3 h4 h5 h6 h7 hd fun Hr' locs' hS' hlo' => W.widen (Nat.le_add_right _ _) (Nat.le_add_right _ _) (kk lr Hr' locs' hl hS' hlo')
theorem ss_52 (X : Cx p m c meth s oc ini nL cc) (hK : Kf E G L xs s) (hR : 8 ≤ R.frames ∧ 600 ≤ R.locals) (hS : Sim E G L xs H Hr) (hl : LocR E nL ls lr) (hlo : okL E locs) (hd : decode cc pc = .ok (x, len)) (hk : lkI oc ini rt nL pc len (52, cst, a, b, tl) x = true) (ha : ast TXT (52, cst, a, b, tl) len pc ls st H = some (o, pc', ls', st', H1)) (ho : o.getD True) (hc : cells + (nx H1 - nx H) ≤ R.cells) (hs : slots + (su H1 - su H) ≤ R.slots)
    (kk : ∀ (lr' : Array Slot) (Hr' : Heap) (locs' : List Loc), LocR E nL ls' lr' → Sim E G L xs H1 Hr' → okL E locs' → W p l e R s m args below meth c Hr' locs' (cells + (nx H1 - nx H)) (slots + (su H1 - su H)) Q (F0 m pc' lr' (st'.map (conc E)))) : W p l e R s m args below meth c Hr locs cells slots Q (F0 m pc lr (st.map (conc E))) := by
  rcases st with _ | ⟨y | (_ | r), st⟩ <;> try (cases (show (none : Option ASR) = some (o, pc', ls', st', H1) from ha); done)
  change some _ = some _ at ha
  simp only [Option.some.injEq, Prod.mk.injEq] at ha
  obtain ⟨rfl, rfl, rfl, rfl, rfl⟩ := ha
  obtain ⟨j, rfl, rfl, hj⟩ := lkI_52 hk
  obtain ⟨h0, h8⟩ : r ≠ 0 ∧ st.length ≤ 8 := ho
  show W _ _ _ _ _ _ _ _ _ _ _ _ _ _ _ (F0 m pc lr (conc E (vR r) :: st.map (conc E)))
  rw [conc_R E h0]
  refine W.objInit X.1 X.2.1 X.2.2.2.1 (hK.1 _ (MLL_obj _ (lk2_mem hj) rfl) rfl args) (hK.1 _ MX_obj.1 rfl args) (hK.1 _ MX_obj.2 rfl args) rfl (hl.2.1.trans X.2.2.1.symm) rfl hd (by omega) (by show 2 * 0 + _ + 12 ≤ _; rw [sum_cat]; omega) ?_
  exact W.widen (Nat.le_add_right _ _) (Nat.le_add_right _ _) (kk lr Hr locs hl hS hlo)
theorem ss_53 (X : Cx p m c meth s oc ini nL cc) (hK : Kf E G L xs s) (hR : 8 ≤ R.frames ∧ 600 ≤ R.locals) (hS : Sim E G L xs H Hr) (hl : LocR E nL ls lr) (hlo : okL E locs) (hd : decode cc pc = .ok (x, len)) (hk : lkI oc ini rt nL pc len (53, cst, a, b, tl) x = true) (ha : ast TXT (53, cst, a, b, tl) len pc ls st H = some (o, pc', ls', st', H1)) (ho : o.getD True) (hc : cells + (nx H1 - nx H) ≤ R.cells) (hs : slots + (su H1 - su H) ≤ R.slots)
    (kk : ∀ (lr' : Array Slot) (Hr' : Heap) (locs' : List Loc), LocR E nL ls' lr' → Sim E G L xs H1 Hr' → okL E locs' → W p l e R s m args below meth c Hr' locs' (cells + (nx H1 - nx H)) (slots + (su H1 - su H)) Q (F0 m pc' lr' (st'.map (conc E)))) : W p l e R s m args below meth c Hr locs cells slots Q (F0 m pc lr (st.map (conc E))) := by
  change some _ = some _ at ha
  simp only [Option.some.injEq, Prod.mk.injEq] at ha
  obtain ⟨rfl, rfl, rfl, rfl, rfl⟩ := ha
  obtain ⟨rfl, rfl⟩ := lkI_53 hk
  refine lv_null X.1 X.2.1 hd ?_
  rw [← conc_0 E]
  exact W.widen (Nat.le_add_right _ _) (Nat.le_add_right _ _) (kk lr Hr locs hl hS hlo)
theorem ss_54 (X : Cx p m c meth s oc ini nL cc) (hK : Kf E G L xs s) (hR : 8 ≤ R.frames ∧ 600 ≤ R.locals) (hS : Sim E G L xs H Hr) (hl : LocR E nL ls lr) (hlo : okL E locs) (hd : decode cc pc = .ok (x, len)) (hk : lkI oc ini rt nL pc len (54, cst, a, b, tl) x = true) (ha : ast TXT (54, cst, a, b, tl) len pc ls st H = some (o, pc', ls', st', H1)) (ho : o.getD True) (hc : cells + (nx H1 - nx H) ≤ R.cells) (hs : slots + (su H1 - su H) ≤ R.slots)
    (kk : ∀ (lr' : Array Slot) (Hr' : Heap) (locs' : List Loc), LocR E nL ls' lr' → Sim E G L xs H1 Hr' → okL E locs' → W p l e R s m args below meth c Hr' locs' (cells + (nx H1 - nx H)) (slots + (su H1 - su H)) Q (F0 m pc' lr' (st'.map (conc E)))) : W p l e R s m args below meth c Hr locs cells slots Q (F0 m pc lr (st.map (conc E))) := by
  rcases st with _ | ⟨y | (_ | r), st⟩ <;> try (cases (show (none : Option ASR) = some (o, pc', ls', st', H1) from ha); done)
  change some _ = some _ at ha
  simp only [Option.some.injEq, Prod.mk.injEq] at ha
  obtain ⟨rfl, rfl, rfl, rfl, rfl⟩ := ha
  obtain ⟨j, rfl, rfl, hj⟩ := lkI_54 hk
  obtain ⟨h5, h8⟩ : (kd H r).1 = 5 ∧ st.length ≤ 8 := ho
  obtain ⟨i, hi, rfl, hki⟩ := hS.2.2.2.1.five h5
  refine so_len X hK hR hS hl.2.1 hlo hi h8 (lk2_mem hj) hd ⟨Nat.le_trans (Nat.le_add_right _ _) hc, Nat.le_trans (Nat.le_add_right _ _) hs⟩ fun locs' hlo' => ?_
  rw [← hki]
  exact W.widen (Nat.le_add_right _ _) (Nat.le_add_right _ _) (kk lr Hr locs' hl hS hlo')
theorem ss_55 (X : Cx p m c meth s oc ini nL cc) (hK : Kf E G L xs s) (hR : 8 ≤ R.frames ∧ 600 ≤ R.locals) (hS : Sim E G L xs H Hr) (hl : LocR E nL ls lr) (hlo : okL E locs) (hd : decode cc pc = .ok (x, len)) (hk : lkI oc ini rt nL pc len (55, cst, a, b, tl) x = true) (ha : ast TXT (55, cst, a, b, tl) len pc ls st H = some (o, pc', ls', st', H1)) (ho : o.getD True) (hc : cells + (nx H1 - nx H) ≤ R.cells) (hs : slots + (su H1 - su H) ≤ R.slots)
    (kk : ∀ (lr' : Array Slot) (Hr' : Heap) (locs' : List Loc), LocR E nL ls' lr' → Sim E G L xs H1 Hr' → okL E locs' → W p l e R s m args below meth c Hr' locs' (cells + (nx H1 - nx H)) (slots + (su H1 - su H)) Q (F0 m pc' lr' (st'.map (conc E)))) : W p l e R s m args below meth c Hr locs cells slots Q (F0 m pc lr (st.map (conc E))) := by
  rcases st with _ | ⟨y | y, _ | ⟨x1 | (_ | r), st⟩⟩ <;> try (cases (show (none : Option ASR) = some (o, pc', ls', st', H1) from ha); done)
  change some _ = some _ at ha
  simp only [Option.some.injEq, Prod.mk.injEq] at ha
  obtain ⟨rfl, rfl, rfl, rfl, rfl⟩ := ha
  obtain ⟨j, rfl, rfl, hj⟩ := lkI_55 hk
  obtain ⟨h5, h6, h8⟩ : (kd H r).1 = 5 ∧ vp_in y (TXT (kd H r).2).length ∧ st.length ≤ 8 := ho
  obtain ⟨i, hi, rfl, hki⟩ := hS.2.2.2.1.five h5
  rw [hki] at h6 kk
  exact so_chr X hK hR hS hl.2.1 hlo hi h6 h8 (lk2_mem hj) hd ⟨Nat.le_trans (Nat.le_add_right _ _) hc, Nat.le_trans (Nat.le_add_right _ _) hs⟩ fun locs' hlo' => W.widen (Nat.le_add_right _ _) (Nat.le_add_right _ _) (kk lr Hr locs' hl hS hlo')
end SMO
