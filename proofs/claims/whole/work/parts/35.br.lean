/-! branches; a whole path; a call -/
section SMB
variable {p : Program} {l : Launch} {e : Env} {R : Room} {s : State} {m : MethodId} {args : Array Value} {below : List Frame} {meth : Method} {c : Code} {locs : List Loc} {cells slots : Nat} {Q : State → Prop}
variable {E : SE} {G : Heap} {L : Nat} {xs : Nat → Int32} {H H1 : AH} {Hr : Heap} {oc nL pc pc' len rt a b : Nat} {ini : Bool} {cc : ByteArray} {lr : Array Slot} {ls st ls' st' : List AV} {cst : Int32} {tl : List Nat} {o : Option Prop} {x : Instr} {cnd : Prop} {i : Ins}
theorem bs_70 (X : Cx p m c meth s oc ini nL cc) (hd : decode cc pc = .ok (x, len)) (hk : lkI oc ini rt nL pc len (70, cst, a, b, tl) x = true) (hb : sm_br (70, cst, a, b, tl) st = some (cnd, st')) (kt : cnd → W p l e R s m args below meth c Hr locs cells slots Q (F0 m a lr (st'.map (conc E)))) (kf : ¬ cnd → W p l e R s m args below meth c Hr locs cells slots Q (F0 m (pc + len) lr (st'.map (conc E)))) : W p l e R s m args below meth c Hr locs cells slots Q (F0 m pc lr (st.map (conc E))) := by
  rcases st with _ | ⟨y | y, _ | ⟨x1 | x1, st⟩⟩ <;> try (cases (show (none : Option (Prop × List AV)) = some (cnd, st') from hb); done)
  change some _ = some _ at hb
  simp only [Option.some.injEq, Prod.mk.injEq] at hb
  obtain ⟨rfl, rfl⟩ := hb
  obtain ⟨off, rfl, rfl, hoff⟩ := lkI_70 hk
  exact lv_icmp_eq X.1 X.2.1 hd hoff kt kf
theorem bs_80 (X : Cx p m c meth s oc ini nL cc) (hd : decode cc pc = .ok (x, len)) (hk : lkI oc ini rt nL pc len (80, cst, a, b, tl) x = true) (hb : sm_br (80, cst, a, b, tl) st = some (cnd, st')) (kt : cnd → W p l e R s m args below meth c Hr locs cells slots Q (F0 m a lr (st'.map (conc E)))) (kf : ¬ cnd → W p l e R s m args below meth c Hr locs cells slots Q (F0 m (pc + len) lr (st'.map (conc E)))) : W p l e R s m args below meth c Hr locs cells slots Q (F0 m pc lr (st.map (conc E))) := by
  rcases st with _ | ⟨y | y, st⟩ <;> try (cases (show (none : Option (Prop × List AV)) = some (cnd, st') from hb); done)
  change some _ = some _ at hb
  simp only [Option.some.injEq, Prod.mk.injEq] at hb
  obtain ⟨rfl, rfl⟩ := hb
  obtain ⟨off, rfl, rfl, hoff⟩ := lkI_80 hk
  exact lv_if_eq X.1 X.2.1 hd hoff kt kf
theorem bs_71 (X : Cx p m c meth s oc ini nL cc) (hd : decode cc pc = .ok (x, len)) (hk : lkI oc ini rt nL pc len (71, cst, a, b, tl) x = true) (hb : sm_br (71, cst, a, b, tl) st = some (cnd, st')) (kt : cnd → W p l e R s m args below meth c Hr locs cells slots Q (F0 m a lr (st'.map (conc E)))) (kf : ¬ cnd → W p l e R s m args below meth c Hr locs cells slots Q (F0 m (pc + len) lr (st'.map (conc E)))) : W p l e R s m args below meth c Hr locs cells slots Q (F0 m pc lr (st.map (conc E))) := by
  rcases st with _ | ⟨y | y, _ | ⟨x1 | x1, st⟩⟩ <;> try (cases (show (none : Option (Prop × List AV)) = some (cnd, st') from hb); done)
  change some _ = some _ at hb
  simp only [Option.some.injEq, Prod.mk.injEq] at hb
  obtain ⟨rfl, rfl⟩ := hb
  obtain ⟨off, rfl, rfl, hoff⟩ := lkI_71 hk
  exact lv_icmp_ne X.1 X.2.1 hd hoff kt (fun h => kf (fun q => q h))
theorem bs_81 (X : Cx p m c meth s oc ini nL cc) (hd : decode cc pc = .ok (x, len)) (hk : lkI oc ini rt nL pc len (81, cst, a, b, tl) x = true) (hb : sm_br (81, cst, a, b, tl) st = some (cnd, st')) (kt : cnd → W p l e R s m args below meth c Hr locs cells slots Q (F0 m a lr (st'.map (conc E)))) (kf : ¬ cnd → W p l e R s m args below meth c Hr locs cells slots Q (F0 m (pc + len) lr (st'.map (conc E)))) : W p l e R s m args below meth c Hr locs cells slots Q (F0 m pc lr (st.map (conc E))) := by
  rcases st with _ | ⟨y | y, st⟩ <;> try (cases (show (none : Option (Prop × List AV)) = some (cnd, st') from hb); done)
  change some _ = some _ at hb
  simp only [Option.some.injEq, Prod.mk.injEq] at hb
  obtain ⟨rfl, rfl⟩ := hb
  obtain ⟨off, rfl, rfl, hoff⟩ := lkI_81 hk
  exact lv_if_ne X.1 X.2.1 hd hoff kt (fun h => kf (fun q => q h))
theorem bs_72 (X : Cx p m c meth s oc ini nL cc) (hd : decode cc pc = .ok (x, len)) (hk : lkI oc ini rt nL pc len (72, cst, a, b, tl) x = true) (hb : sm_br (72, cst, a, b, tl) st = some (cnd, st')) (kt : cnd → W p l e R s m args below meth c Hr locs cells slots Q (F0 m a lr (st'.map (conc E)))) (kf : ¬ cnd → W p l e R s m args below meth c Hr locs cells slots Q (F0 m (pc + len) lr (st'.map (conc E)))) : W p l e R s m args below meth c Hr locs cells slots Q (F0 m pc lr (st.map (conc E))) := by
  rcases st with _ | ⟨y | y, _ | ⟨x1 | x1, st⟩⟩ <;> try (cases (show (none : Option (Prop × List AV)) = some (cnd, st') from hb); done)
  change some _ = some _ at hb
  simp only [Option.some.injEq, Prod.mk.injEq] at hb
  obtain ⟨rfl, rfl⟩ := hb
  obtain ⟨off, rfl, rfl, hoff⟩ := lkI_72 hk
  exact lv_icmp_lt X.1 X.2.1 hd hoff kt kf
theorem bs_82 (X : Cx p m c meth s oc ini nL cc) (hd : decode cc pc = .ok (x, len)) (hk : lkI oc ini rt nL pc len (82, cst, a, b, tl) x = true) (hb : sm_br (82, cst, a, b, tl) st = some (cnd, st')) (kt : cnd → W p l e R s m args below meth c Hr locs cells slots Q (F0 m a lr (st'.map (conc E)))) (kf : ¬ cnd → W p l e R s m args below meth c Hr locs cells slots Q (F0 m (pc + len) lr (st'.map (conc E)))) : W p l e R s m args below meth c Hr locs cells slots Q (F0 m pc lr (st.map (conc E))) := by
  rcases st with _ | ⟨y | y, st⟩ <;> try (cases (show (none : Option (Prop × List AV)) = some (cnd, st') from hb); done)
  change some _ = some _ at hb
  simp only [Option.some.injEq, Prod.mk.injEq] at hb
  obtain ⟨rfl, rfl⟩ := hb
  obtain ⟨off, rfl, rfl, hoff⟩ := lkI_82 hk
  exact lv_if_lt X.1 X.2.1 hd hoff kt kf
theorem bs_73 (X : Cx p m c meth s oc ini nL cc) (hd : decode cc pc = .ok (x, len)) (hk : lkI oc ini rt nL pc len (73, cst, a, b, tl) x = true) (hb : sm_br (73, cst, a, b, tl) st = some (cnd, st')) (kt : cnd → W p l e R s m args below meth c Hr locs cells slots Q (F0 m a lr (st'.map (conc E)))) (kf : ¬ cnd → W p l e R s m args below meth c Hr locs cells slots Q (F0 m (pc + len) lr (st'.map (conc E)))) : W p l e R s m args below meth c Hr locs cells slots Q (F0 m pc lr (st.map (conc E))) := by
  rcases st with _ | ⟨y | y, _ | ⟨x1 | x1, st⟩⟩ <;> try (cases (show (none : Option (Prop × List AV)) = some (cnd, st') from hb); done)
  change some _ = some _ at hb
  simp only [Option.some.injEq, Prod.mk.injEq] at hb
  obtain ⟨rfl, rfl⟩ := hb
  obtain ⟨off, rfl, rfl, hoff⟩ := lkI_73 hk
  exact lv_icmp_ge X.1 X.2.1 hd hoff kt kf
theorem bs_83 (X : Cx p m c meth s oc ini nL cc) (hd : decode cc pc = .ok (x, len)) (hk : lkI oc ini rt nL pc len (83, cst, a, b, tl) x = true) (hb : sm_br (83, cst, a, b, tl) st = some (cnd, st')) (kt : cnd → W p l e R s m args below meth c Hr locs cells slots Q (F0 m a lr (st'.map (conc E)))) (kf : ¬ cnd → W p l e R s m args below meth c Hr locs cells slots Q (F0 m (pc + len) lr (st'.map (conc E)))) : W p l e R s m args below meth c Hr locs cells slots Q (F0 m pc lr (st.map (conc E))) := by
  rcases st with _ | ⟨y | y, st⟩ <;> try (cases (show (none : Option (Prop × List AV)) = some (cnd, st') from hb); done)
  change some _ = some _ at hb
  simp only [Option.some.injEq, Prod.mk.injEq] at hb
  obtain ⟨rfl, rfl⟩ := hb
  obtain ⟨off, rfl, rfl, hoff⟩ := lkI_83 hk
  exact lv_if_ge X.1 X.2.1 hd hoff kt kf
theorem bs_74 (X : Cx p m c meth s oc ini nL cc) (hd : decode cc pc = .ok (x, len)) (hk : lkI oc ini rt nL pc len (74, cst, a, b, tl) x = true) (hb : sm_br (74, cst, a, b, tl) st = some (cnd, st')) (kt : cnd → W p l e R s m args below meth c Hr locs cells slots Q (F0 m a lr (st'.map (conc E)))) (kf : ¬ cnd → W p l e R s m args below meth c Hr locs cells slots Q (F0 m (pc + len) lr (st'.map (conc E)))) : W p l e R s m args below meth c Hr locs cells slots Q (F0 m pc lr (st.map (conc E))) := by
  rcases st with _ | ⟨y | y, _ | ⟨x1 | x1, st⟩⟩ <;> try (cases (show (none : Option (Prop × List AV)) = some (cnd, st') from hb); done)
  change some _ = some _ at hb
  simp only [Option.some.injEq, Prod.mk.injEq] at hb
  obtain ⟨rfl, rfl⟩ := hb
  obtain ⟨off, rfl, rfl, hoff⟩ := lkI_74 hk
  exact lv_icmp_gt X.1 X.2.1 hd hoff kt kf
theorem bs_84 (X : Cx p m c meth s oc ini nL cc) (hd : decode cc pc = .ok (x, len)) (hk : lkI oc ini rt nL pc len (84, cst, a, b, tl) x = true) (hb : sm_br (84, cst, a, b, tl) st = some (cnd, st')) (kt : cnd → W p l e R s m args below meth c Hr locs cells slots Q (F0 m a lr (st'.map (conc E)))) (kf : ¬ cnd → W p l e R s m args below meth c Hr locs cells slots Q (F0 m (pc + len) lr (st'.map (conc E)))) : W p l e R s m args below meth c Hr locs cells slots Q (F0 m pc lr (st.map (conc E))) := by
  rcases st with _ | ⟨y | y, st⟩ <;> try (cases (show (none : Option (Prop × List AV)) = some (cnd, st') from hb); done)
  change some _ = some _ at hb
  simp only [Option.some.injEq, Prod.mk.injEq] at hb
  obtain ⟨rfl, rfl⟩ := hb
  obtain ⟨off, rfl, rfl, hoff⟩ := lkI_84 hk
  exact lv_if_gt X.1 X.2.1 hd hoff kt kf
theorem bs_75 (X : Cx p m c meth s oc ini nL cc) (hd : decode cc pc = .ok (x, len)) (hk : lkI oc ini rt nL pc len (75, cst, a, b, tl) x = true) (hb : sm_br (75, cst, a, b, tl) st = some (cnd, st')) (kt : cnd → W p l e R s m args below meth c Hr locs cells slots Q (F0 m a lr (st'.map (conc E)))) (kf : ¬ cnd → W p l e R s m args below meth c Hr locs cells slots Q (F0 m (pc + len) lr (st'.map (conc E)))) : W p l e R s m args below meth c Hr locs cells slots Q (F0 m pc lr (st.map (conc E))) := by
  rcases st with _ | ⟨y | y, _ | ⟨x1 | x1, st⟩⟩ <;> try (cases (show (none : Option (Prop × List AV)) = some (cnd, st') from hb); done)
  change some _ = some _ at hb
  simp only [Option.some.injEq, Prod.mk.injEq] at hb
  obtain ⟨rfl, rfl⟩ := hb
  obtain ⟨off, rfl, rfl, hoff⟩ := lkI_75 hk
  exact lv_icmp_le X.1 X.2.1 hd hoff kt kf
theorem bs_85 (X : Cx p m c meth s oc ini nL cc) (hd : decode cc pc = .ok (x, len)) (hk : lkI oc ini rt nL pc len (85, cst, a, b, tl) x = true) (hb : sm_br (85, cst, a, b, tl) st = some (cnd, st')) (kt : cnd → W p l e R s m args below meth c Hr locs cells slots Q (F0 m a lr (st'.map (conc E)))) (kf : ¬ cnd → W p l e R s m args below meth c Hr locs cells slots Q (F0 m (pc + len) lr (st'.map (conc E)))) : W p l e R s m args below meth c Hr locs cells slots Q (F0 m pc lr (st.map (conc E))) := by
  rcases st with _ | ⟨y | y, st⟩ <;> try (cases (show (none : Option (Prop × List AV)) = some (cnd, st') from hb); done)
  change some _ = some _ at hb
  simp only [Option.some.injEq, Prod.mk.injEq] at hb
  obtain ⟨rfl, rfl⟩ := hb
  obtain ⟨off, rfl, rfl, hoff⟩ := lkI_85 hk
  exact lv_if_le X.1 X.2.1 hd hoff kt kf
theorem bs_90 (X : Cx p m c meth s oc ini nL cc) (hd : decode cc pc = .ok (x, len)) (hk : lkI oc ini rt nL pc len (90, cst, a, b, tl) x = true) (hb : sm_br (90, cst, a, b, tl) st = some (cnd, st')) (kt : cnd → W p l e R s m args below meth c Hr locs cells slots Q (F0 m a lr (st'.map (conc E)))) (kf : ¬ cnd → W p l e R s m args below meth c Hr locs cells slots Q (F0 m (pc + len) lr (st'.map (conc E)))) : W p l e R s m args below meth c Hr locs cells slots Q (F0 m pc lr (st.map (conc E))) := by
  rcases st with _ | ⟨y | (_ | r), st⟩ <;> try (cases (show (none : Option (Prop × List AV)) = some (cnd, st') from hb); done)
  change some _ = some _ at hb
  simp only [Option.some.injEq, Prod.mk.injEq] at hb
  obtain ⟨rfl, rfl⟩ := hb
  obtain ⟨off, rfl, rfl, hoff⟩ := lkI_90 hk
  by_cases hr : r = 0
  · subst hr
    show W _ _ _ _ _ _ _ _ _ _ _ _ _ _ _ (F0 m pc lr (conc E (vR 0) :: st.map (conc E)))
    rw [conc_0]
    exact lv_ifnullN X.1 X.2.1 hd hoff (kt rfl)
  · show W _ _ _ _ _ _ _ _ _ _ _ _ _ _ _ (F0 m pc lr (conc E (vR r) :: st.map (conc E)))
    rw [conc_R E hr]
    exact lv_ifnull X.1 X.2.1 hd (kf hr)
theorem bs_91 (X : Cx p m c meth s oc ini nL cc) (hd : decode cc pc = .ok (x, len)) (hk : lkI oc ini rt nL pc len (91, cst, a, b, tl) x = true) (hb : sm_br (91, cst, a, b, tl) st = some (cnd, st')) (kt : cnd → W p l e R s m args below meth c Hr locs cells slots Q (F0 m a lr (st'.map (conc E)))) (kf : ¬ cnd → W p l e R s m args below meth c Hr locs cells slots Q (F0 m (pc + len) lr (st'.map (conc E)))) : W p l e R s m args below meth c Hr locs cells slots Q (F0 m pc lr (st.map (conc E))) := by
  rcases st with _ | ⟨y | (_ | r), st⟩ <;> try (cases (show (none : Option (Prop × List AV)) = some (cnd, st') from hb); done)
  change some _ = some _ at hb
  simp only [Option.some.injEq, Prod.mk.injEq] at hb
  obtain ⟨rfl, rfl⟩ := hb
  obtain ⟨off, rfl, rfl, hoff⟩ := lkI_91 hk
  by_cases hr : r = 0
  · subst hr
    show W _ _ _ _ _ _ _ _ _ _ _ _ _ _ _ (F0 m pc lr (conc E (vR 0) :: st.map (conc E)))
    rw [conc_0]
    exact lv_ifnonnullN X.1 X.2.1 hd (kf (fun q => q rfl))
  · show W _ _ _ _ _ _ _ _ _ _ _ _ _ _ _ (F0 m pc lr (conc E (vR r) :: st.map (conc E)))
    rw [conc_R E hr]
    exact lv_ifnonnull X.1 X.2.1 hd hoff (kt hr)
theorem ast_sound (X : Cx p m c meth s oc ini nL cc) (hK : Kf E G L xs s) (hR : 8 ≤ R.frames ∧ 600 ≤ R.locals) (hS : Sim E G L xs H Hr) (hl : LocR E nL ls lr) (hlo : okL E locs) (hd : decode cc pc = .ok (x, len)) (hk : lkI oc ini rt nL pc len i x = true) (ha : ast TXT i len pc ls st H = some (o, pc', ls', st', H1)) (ho : o.getD True) (hc : cells + (nx H1 - nx H) ≤ R.cells) (hs : slots + (su H1 - su H) ≤ R.slots)
    (kk : ∀ (lr' : Array Slot) (Hr' : Heap) (locs' : List Loc), LocR E nL ls' lr' → Sim E G L xs H1 Hr' → okL E locs' → W p l e R s m args below meth c Hr' locs' (cells + (nx H1 - nx H)) (slots + (su H1 - su H)) Q (F0 m pc' lr' (st'.map (conc E)))) : W p l e R s m args below meth c Hr locs cells slots Q (F0 m pc lr (st.map (conc E))) := by
  obtain ⟨op, cst, a, b, tl⟩ := i
  by_cases h0 : op = 0
  · subst h0; exact ss_0 X hK hR hS hl hlo hd hk ha ho hc hs kk
  by_cases h1 : op = 1
  · subst h1; exact ss_1 X hK hR hS hl hlo hd hk ha ho hc hs kk
  by_cases h2 : op = 2
  · subst h2; exact ss_2 X hK hR hS hl hlo hd hk ha ho hc hs kk
  by_cases h3 : op = 3
  · subst h3; exact ss_3 X hK hR hS hl hlo hd hk ha ho hc hs kk
  by_cases h4 : op = 4
  · subst h4; exact ss_4 X hK hR hS hl hlo hd hk ha ho hc hs kk
  by_cases h5 : op = 5
  · subst h5; exact ss_5 X hK hR hS hl hlo hd hk ha ho hc hs kk
  by_cases h6 : op = 6
  · subst h6; exact ss_6 X hK hR hS hl hlo hd hk ha ho hc hs kk
  by_cases h7 : op = 7
  · subst h7; exact ss_7 X hK hR hS hl hlo hd hk ha ho hc hs kk
  by_cases h8 : op = 8
  · subst h8; exact ss_8 X hK hR hS hl hlo hd hk ha ho hc hs kk
  by_cases h9 : op = 9
  · subst h9; exact ss_9 X hK hR hS hl hlo hd hk ha ho hc hs kk
  by_cases h10 : op = 10
  · subst h10; exact ss_10 X hK hR hS hl hlo hd hk ha ho hc hs kk
  by_cases h11 : op = 11
  · subst h11; exact ss_11 X hK hR hS hl hlo hd hk ha ho hc hs kk
  by_cases h12 : op = 12
  · subst h12; exact ss_12 X hK hR hS hl hlo hd hk ha ho hc hs kk
  by_cases h13 : op = 13
  · subst h13; exact ss_13 X hK hR hS hl hlo hd hk ha ho hc hs kk
  by_cases h14 : op = 14
  · subst h14; exact ss_14 X hK hR hS hl hlo hd hk ha ho hc hs kk
  by_cases h15 : op = 15
  · subst h15; exact ss_15 X hK hR hS hl hlo hd hk ha ho hc hs kk
  by_cases h16 : op = 16
  · subst h16; exact ss_16 X hK hR hS hl hlo hd hk ha ho hc hs kk
  by_cases h17 : op = 17
  · subst h17; exact ss_17 X hK hR hS hl hlo hd hk ha ho hc hs kk
  by_cases h20 : op = 20
  · subst h20; exact ss_20 X hK hR hS hl hlo hd hk ha ho hc hs kk
  by_cases h21 : op = 21
  · subst h21; exact ss_21 X hK hR hS hl hlo hd hk ha ho hc hs kk
  by_cases h22 : op = 22
  · subst h22; exact ss_22 X hK hR hS hl hlo hd hk ha ho hc hs kk
  by_cases h23 : op = 23
  · subst h23; exact ss_23 X hK hR hS hl hlo hd hk ha ho hc hs kk
  by_cases h30 : op = 30
  · subst h30; exact ss_30 X hK hR hS hl hlo hd hk ha ho hc hs kk
  by_cases h31 : op = 31
  · subst h31; exact ss_31 X hK hR hS hl hlo hd hk ha ho hc hs kk
  by_cases h32 : op = 32
  · subst h32; exact ss_32 X hK hR hS hl hlo hd hk ha ho hc hs kk
  by_cases h33 : op = 33
  · subst h33; exact ss_33 X hK hR hS hl hlo hd hk ha ho hc hs kk
  by_cases h34 : op = 34
  · subst h34; exact ss_34 X hK hR hS hl hlo hd hk ha ho hc hs kk
  by_cases h35 : op = 35
  · subst h35; exact ss_35 X hK hR hS hl hlo hd hk ha ho hc hs kk
  by_cases h36 : op = 36
  · subst h36; exact ss_36 X hK hR hS hl hlo hd hk ha ho hc hs kk
  by_cases h37 : op = 37
  · subst h37; exact ss_37 X hK hR hS hl hlo hd hk ha ho hc hs kk
  by_cases h38 : op = 38
  · subst h38; exact ss_38 X hK hR hS hl hlo hd hk ha ho hc hs kk
  by_cases h39 : op = 39
  · subst h39; exact ss_39 X hK hR hS hl hlo hd hk ha ho hc hs kk
  by_cases h40 : op = 40
  · subst h40; exact ss_40 X hK hR hS hl hlo hd hk ha ho hc hs kk
  by_cases h41 : op = 41
  · subst h41; exact ss_41 X hK hR hS hl hlo hd hk ha ho hc hs kk
  by_cases h42 : op = 42
  · subst h42; exact ss_42 X hK hR hS hl hlo hd hk ha ho hc hs kk
  by_cases h43 : op = 43
  · subst h43; exact ss_43 X hK hR hS hl hlo hd hk ha ho hc hs kk
  by_cases h44 : op = 44
  · subst h44; exact ss_44 X hK hR hS hl hlo hd hk ha ho hc hs kk
  by_cases h45 : op = 45
  · subst h45; exact ss_45 X hK hR hS hl hlo hd hk ha ho hc hs kk
  by_cases h46 : op = 46
  · subst h46; exact ss_46 X hK hR hS hl hlo hd hk ha ho hc hs kk
  by_cases h47 : op = 47
  · subst h47; exact ss_47 X hK hR hS hl hlo hd hk ha ho hc hs kk
  by_cases h48 : op = 48
  · subst h48; exact ss_48 X hK hR hS hl hlo hd hk ha ho hc hs kk
  by_cases h49 : op = 49
  · subst h49; exact ss_49 X hK hR hS hl hlo hd hk ha ho hc hs kk
  by_cases h50 : op = 50
  · subst h50; exact ss_50 X hK hR hS hl hlo hd hk ha ho hc hs kk
  by_cases h51 : op = 51
  · subst h51; exact ss_51 X hK hR hS hl hlo hd hk ha ho hc hs kk
  by_cases h52 : op = 52
  · subst h52; exact ss_52 X hK hR hS hl hlo hd hk ha ho hc hs kk
  by_cases h53 : op = 53
  · subst h53; exact ss_53 X hK hR hS hl hlo hd hk ha ho hc hs kk
  by_cases h54 : op = 54
  · subst h54; exact ss_54 X hK hR hS hl hlo hd hk ha ho hc hs kk
  by_cases h55 : op = 55
  · subst h55; exact ss_55 X hK hR hS hl hlo hd hk ha ho hc hs kk
  exfalso
  unfold ast at ha
  dsimp only at ha
  split at ha <;> first | (cases ha; done) | omega | (simp_all; done)
theorem br_sound (X : Cx p m c meth s oc ini nL cc) (hd : decode cc pc = .ok (x, len)) (hk : lkI oc ini rt nL pc len i x = true) (hb : sm_br i st = some (cnd, st')) (kt : cnd → W p l e R s m args below meth c Hr locs cells slots Q (F0 m i.2.2.1 lr (st'.map (conc E)))) (kf : ¬ cnd → W p l e R s m args below meth c Hr locs cells slots Q (F0 m (pc + len) lr (st'.map (conc E)))) : W p l e R s m args below meth c Hr locs cells slots Q (F0 m pc lr (st.map (conc E))) := by
  obtain ⟨op, cst, a, b, tl⟩ := i
  by_cases h70 : op = 70
  · subst h70; exact bs_70 X hd hk hb kt kf
  by_cases h71 : op = 71
  · subst h71; exact bs_71 X hd hk hb kt kf
  by_cases h72 : op = 72
  · subst h72; exact bs_72 X hd hk hb kt kf
  by_cases h73 : op = 73
  · subst h73; exact bs_73 X hd hk hb kt kf
  by_cases h74 : op = 74
  · subst h74; exact bs_74 X hd hk hb kt kf
  by_cases h75 : op = 75
  · subst h75; exact bs_75 X hd hk hb kt kf
  by_cases h80 : op = 80
  · subst h80; exact bs_80 X hd hk hb kt kf
  by_cases h81 : op = 81
  · subst h81; exact bs_81 X hd hk hb kt kf
  by_cases h82 : op = 82
  · subst h82; exact bs_82 X hd hk hb kt kf
  by_cases h83 : op = 83
  · subst h83; exact bs_83 X hd hk hb kt kf
  by_cases h84 : op = 84
  · subst h84; exact bs_84 X hd hk hb kt kf
  by_cases h85 : op = 85
  · subst h85; exact bs_85 X hd hk hb kt kf
  by_cases h90 : op = 90
  · subst h90; exact bs_90 X hd hk hb kt kf
  by_cases h91 : op = 91
  · subst h91; exact bs_91 X hd hk hb kt kf
  exfalso
  unfold sm_br at hb
  dsimp only at hb
  split at hb <;> first | (cases hb; done) | omega | (simp_all; done)
end SMB
