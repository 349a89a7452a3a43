def PcM (E : SE) (G : Heap) (L : Nat) (xs : Nat → Int32) (as : List AV) (H : AH) : Array Value → State → Prop := fun v U => v = (as.map (conc E)).toArray ∧ Sim E G L xs H U.heap ∧ Kf E G L xs U
def QcM (E : SE) (G : Heap) (L : Nat) (xs : Nat → Int32) (r : Option AV) (H' : AH) : Array Value → State → Outcome → State → Prop := fun _ _ oc t => oc = .returned (r.map (conc E)) ∧ Sim E G L xs H' t.heap
theorem PcM.blind {E : SE} {G : Heap} {L : Nat} {xs : Nat → Int32} {as : List AV} {H : AH} : FrameBlind (PcM E G L xs as H) := by
  intro a U g mk h
  exact ⟨h.1, h.2.1, h.2.2.warm (s := U) (U := U.calling g mk a) (State.WarmedH.refl U)⟩
def wsM (mm : Nat) : List Cond := [Cond.code (yM mm) (bM mm) (lM mm) (rM mm)]
def rmM (d : Nat) (H H' : AH) : Room := { frames := d + 8, cells := nx H' - nx H, slots := su H' - su H, locals := 64 * d + 600 }
def MetM (l : Launch) (E : SE) (G : Heap) (L : Nat) (xs : Nat → Int32) (d mm : Nat) (as : List AV) (H : AH) (r : Option AV) (H' : AH) : Prop :=
  Met l (yM mm) (wsM mm) (rmM d H H') (PcM E G L xs as H) (QcM E G L xs r H') (nx H' - nx H) (su H' - su H) (fun q => eS E ≤ q)
set_option maxRecDepth 20000 in
theorem room_l {z d r : Nat} (h : z ≤ 45) (h2 : 64 * d + 664 ≤ r) : 8 + (z + 11) + (64 * d + 600) ≤ r := by omega
section SMP
variable {p : Program} {l : Launch} {e : Env} {R : Room} {s : State} {m : MethodId} {args : Array Value} {below : List Frame} {meth : Method} {c : Code} {locs : List Loc} {cells slots : Nat} {Q : State → Prop}
variable {E : SE} {G : Heap} {L : Nat} {xs : Nat → Int32} {H H1 : AH} {Hr : Heap} {oc nL pc : Nat} {ini : Bool} {cc : ByteArray} {lr : Array Slot}
theorem stk_map {as rest : List AV} : (as.reverse ++ rest).map (conc E) = (as.map (conc E)).reverse ++ rest.map (conc E) := by simp
/-- a call, by the contract of what is called -/
theorem so_call {d mm j : Nat} {as rest : List AV} {r1 : Option AV} {H1 : AH} (X : Cx p m c meth s oc ini nL cc) (hK : Kf E G L xs s) (hRf : d + 9 ≤ R.frames) (hRl : 64 * d + 664 ≤ R.locals) (hS : Sim E G L xs H Hr) (hsz : lr.size = nL) (hlo : okL E locs)
    (hM : MetM l E G L xs d mm as H r1 H1) (hmi : miW mm) (hml : mlW oc j mm) (has : as.length = mA mm) (h8 : rest.length ≤ 8) (hrec : (MT mm).2.2 = 0 ∨ ∃ a as', as = vR a :: as' ∧ (kd H a).1 + 1 = 20 + (MT mm).2.2)
    (hd : (decode cc pc = .ok (.invokevirtual j, 3) ∧ mK mm = 0) ∨ (decode cc pc = .ok (.invokestatic j, 3) ∧ mK mm = 1) ∨ (decode cc pc = .ok (.invokespecial j, 3) ∧ mK mm = 2)) (hc : cells + (nx H1 - nx H) ≤ R.cells) (hs : slots + (su H1 - su H) ≤ R.slots)
    (kk : ∀ (Hr' : Heap) (locs' : List Loc), Sim E G L xs H1 Hr' → okL E locs' → W p l e R s m args below meth c Hr' locs' (cells + (nx H1 - nx H)) (slots + (su H1 - su H)) Q (F0 m (pc + 3) lr ((r1.toList ++ rest).map (conc E)))) : W p l e R s m args below meth c Hr locs cells slots Q (F0 m pc lr ((as.reverse ++ rest).map (conc E))) := by
  obtain ⟨m1, m2, m3, m4, m5, m6, m7, m8, m9⟩ := hmi
  obtain ⟨hnM, hln⟩ := hml
  have hcode := hK.1 _ m1 rfl args
  have hini := hK.1 _ m2 rfl args
  have hwsb : ∀ w ∈ wsM mm, ∀ (a' : Array Value) (U : State), s.WarmedH U.vm → w.before a' U = true := fun w hw a' U hW => by
    rw [List.mem_singleton.mp hw]
    exact (hK.warm hW).1 _ m1 rfl a'
  have hcm : Cond.code (yM mm) (bM mm) (lM mm) (rM mm) ∈ wsM mm := List.mem_singleton.mpr rfl
  have hF : CallFix p m c cc nL s args [] (cN oc) := ⟨X.1, X.2.1, X.2.2.1, X.2.2.2.1, fun w hw => by cases hw⟩
  have hro : (rmM d H H1).frames + 1 ≤ R.frames ∧ 8 + (lM mm + 11) + (rmM d H H1).locals ≤ R.locals := by
    dsimp only [rmM]
    exact ⟨hRf, room_l m6 hRl⟩
  have hsum : ((rest.map (conc E)).map fun v => v.category).sum ≤ 8 := by rw [sum_cat]; exact h8
  have hfin : ∀ (free : Addr → Prop) (A : Array Value), va_Run p l e R s m args below meth c Hr locs cells slots (nx H1 - nx H) (su H1 - su H) (F0 m pc lr ((as.reverse ++ rest).map (conc E))) (rest.map (conc E)) (QcM E G L xs r1 H1 A) (fun q => eS E ≤ q) → W p l e R s m args below meth c Hr locs cells slots Q (F0 m pc lr ((as.reverse ++ rest).map (conc E))) := by
    intro free A hrun T hT Z
    obtain ⟨v, st₀, t, T', Lc, h0, Z', hL, e1, e2, ⟨hv, hS1⟩, stp⟩ := hrun T hT Z
    have hv : v = r1.map (conc E) := by injection hv
    rw [← e1] at hS1
    obtain ⟨t2, a1, b1⟩ := kk T'.heap (locs ++ Lc) hS1 (fun q hq => by
      rcases List.mem_append.mp hq with h | h
      · exact hlo q h
      · exact hL q h) T' rfl Z'
    refine ⟨t2, stp t2 ?_, b1⟩
    rw [hv]
    have : (r1.toList ++ rest).map (conc E) = (r1.map (conc E)).toList ++ rest.map (conc E) := by cases r1 <;> simp
    rw [this] at a1
    exact a1
  rcases m9 with ⟨k1, k2, k3, k4⟩ | ⟨k1, k2, k3, k4, k5, k6, k7⟩
  · -- static
    have hdd : decode cc pc = .ok (.invokestatic j, 3) := by
      rcases hd with ⟨_, h⟩ | ⟨h, _⟩ | ⟨_, h⟩
      · omega
      · exact h
      · omega
    have hlen : ∀ sig, parseMethodDescriptor (yM mm).desc = some sig → mA mm = sig.parameters.length := fun sig h => by
      rw [h] at k4
      exact (Option.some.inj k4).symm
    have hpre : PreS s Hr (PcM E G L xs as H) (as.map (conc E)) := ⟨PcM.blind, fun U hU hW => ⟨rfl, by rw [hU]; exact hS, hK.warm hW⟩⟩
    refine hfin (fun _ => True) (as.map (conc E)).toArray ?_
    rcases hln with hln | ⟨host, hln⟩
    · exact va_runS (As := as.map (conc E)) (rest := rest.map (conc E)) hF hM ⟨⟨rfl, rfl, hro.1, hro.2, hwsb, hcm, hcode, hini, m4, hlen, hK.1 _ hln rfl args⟩, hK.1 _ k3 rfl args⟩ hpre rfl (by rw [List.length_map]; exact has) hsz stk_map (lv_room hsum) hdd ⟨hc, hs⟩
    · exact va_runSN (As := as.map (conc E)) (rest := rest.map (conc E)) hF hM ⟨⟨⟨rfl, rfl, hro.1, hro.2, hwsb, hcm⟩, hcode, hini, m4, hlen, hK.2.1 _ hln rfl args⟩, hK.1 _ k3 rfl args, trivial⟩ hpre rfl (by rw [List.length_map]; exact has) hsz stk_map (lv_room hsum) hdd ⟨hc, hs⟩
  · obtain ⟨b, as', rfl, hkb⟩ : ∃ a as', as = vR a :: as' ∧ (kd H a).1 + 1 = 20 + (MT mm).2.2 := by
      rcases hrec with h | h
      · omega
      · exact h
    have hkb : (kd H b).1 = 20 + oM mm := by omega
    obtain ⟨hka, hna, cell, q1, q2, q3, q4⟩ := hS.obj hkb k3
    have hcb : conc E (vR b) = .ref (ad E b) := conc_R E (K0_ne hka)
    have hlen : ∀ sig, parseMethodDescriptor (yM mm).desc = some sig → as'.length = sig.parameters.length := fun sig h => by
      rw [h] at k5
      have h5 := Option.some.inj k5
      dsimp only at h5
      simp only [List.length_cons] at has
      clear hrec hfin
      omega
    have hstk : ((vR b :: as').reverse ++ rest).map (conc E) = (as'.map (conc E)).reverse ++ .ref (ad E b) :: rest.map (conc E) := by
      rw [← hcb]; simp
    have harr : (.ref (ad E b) :: as'.map (conc E) : List Value).toArray = ((vR b :: as').map (conc E)).toArray := by rw [← hcb]; rfl
    have hPc : ∀ U : State, U.heap = Hr → s.WarmedH U.vm → PcM E G L xs (vR b :: as') H (Value.ref (ad E b) :: as'.map (conc E)).toArray U := fun U hU hW => ⟨harr, by rw [hU]; exact hS, hK.warm hW⟩
    have hclA := (hK.2.2.1.1 (oM mm) _ (cl_nm _ k3)).2
    refine hfin (fun _ => True) (Value.ref (ad E b) :: as'.map (conc E)).toArray ?_
    rcases hd with ⟨hdd, h0⟩ | ⟨_, h⟩ | ⟨hdd, h2⟩
    · have hsel := hK.1 _ (k6 h0) rfl args
      have hpre : PreV s Hr (yM mm).cls (ad E b) (PcM E G L xs (vR b :: as') H) (as'.map (conc E)) := ⟨PcM.blind, ⟨cell, q1, by rw [q3]; rfl, by rw [m3, q2]; exact hclA.1⟩, hPc⟩
      rcases hln with hln | ⟨host, hln⟩
      · exact va_runV (As := as'.map (conc E)) (rest := rest.map (conc E)) (n := as'.length) hF hM ⟨⟨rfl, rfl, hro.1, hro.2, hwsb, hcm, hcode, hini, m4, hlen, hK.1 _ hln rfl args⟩, hK.1 _ k4 rfl args, hsel⟩ hpre rfl (by rw [List.length_map]) hsz hstk (lv_room hsum) hdd ⟨hc, hs⟩
      · exact va_runVN (As := as'.map (conc E)) (rest := rest.map (conc E)) (n := as'.length) hF hM ⟨⟨⟨rfl, rfl, hro.1, hro.2, hwsb, hcm⟩, hcode, hini, m4, hlen, hK.2.1 _ hln rfl args⟩, hK.1 _ k4 rfl args, hsel⟩ hpre rfl (by rw [List.length_map]) hsz hstk (lv_room hsum) hdd ⟨hc, hs⟩
    · omega
    · obtain ⟨hy1, hrn⟩ := k7 h2
      have hpre : PreS s Hr (PcM E G L xs (vR b :: as') H) (.ref (ad E b) :: as'.map (conc E)) := ⟨PcM.blind, hPc⟩
      rw [hrn] at hcode hcm
      rcases hln with hln | ⟨host, hln⟩
      · exact va_runI (As := as'.map (conc E)) (rest := rest.map (conc E)) (n := as'.length) hF hM ⟨⟨rfl, rfl, hro.1, hro.2, hwsb, hcm, hcode, hini, m4, hlen, hK.1 _ hln rfl args⟩, hy1, hK.1 _ k4 rfl args⟩ hpre rfl (by rw [List.length_map]) hsz hstk (lv_room hsum) hdd ⟨hc, hs⟩
      · exact va_runIN (As := as'.map (conc E)) (rest := rest.map (conc E)) (n := as'.length) hF hM ⟨⟨⟨rfl, rfl, hro.1, hro.2, hwsb, hcm⟩, hcode, hini, m4, hlen, hK.2.1 _ hln rfl args⟩, hy1, hK.1 _ k4 rfl args⟩ hpre rfl (by rw [List.length_map]) hsz hstk (lv_room hsum) hdd ⟨hc, hs⟩
/-- a path of the small machine, from any place, is a path of the real one; the end is a parameter -/
theorem path_sound {d rt : Nat} {C : SC} {r : Option AV} {H' : AH} {cE sE : Nat} (hcall : ∀ mm as H r H', mm < nM → as.length = mA mm → Call TXT MT d mm as H r H' → MetM l E G L xs d mm as H r H')
    (X : Cx p m c meth s oc ini nL cc) (hK : Kf E G L xs s) (hRf : d + 9 ≤ R.frames) (hRl : 64 * d + 664 ≤ R.locals) (hck : chkL oc ini rt nL cc C 0 = true) (hcE : cE ≤ R.cells) (hsE : sE ≤ R.slots)
    (hend : ∀ (pc : Nat) (lr : Array Slot) (Hr : Heap) (locs : List Loc), Sim E G L xs H' Hr → okL E locs → ((∃ x, r = some (vI x) ∧ rt < 3 ∧ sm_fits rt x ∧ decode cc pc = .ok (.ireturn, 1)) ∨ (∃ a, r = some (vR a) ∧ rt = 3 ∧ decode cc pc = .ok (.areturn, 1)) ∨ (r = none ∧ rt = 4 ∧ decode cc pc = .ok (.return_, 1))) → W p l e R s m args below meth c Hr locs cE sE Q (F0 m pc lr (r.toList.map (conc E)))) :
    ∀ (n pc : Nat) (ls st : List AV) (H : AH) (lr : Array Slot) (Hr : Heap) (locs : List Loc) (cells slots : Nat), Path TXT (Call TXT MT d) C n pc ls st H r H' → LocR E nL ls lr → Sim E G L xs H Hr → okL E locs → cells + (nx H' - nx H) = cE → slots + (su H' - su H) = sE → W p l e R s m args below meth c Hr locs cells slots Q (F0 m pc lr (st.map (conc E))) := by
  intro n
  induction n with
  | zero => intro pc ls st H lr Hr locs cells slots h; exact h.elim
  | succ n ih =>
    intro pc ls st H lr Hr locs cells slots h hl hS hlo hcs hss
    have hg := Path_grow (fun m as H r H' => Call_grow d m as H r H') (n + 1) pc ls st H r H' h
    simp only [Path] at h
    split at h
    · rename_i i len hC
      obtain ⟨x, hd, hk⟩ := chkL_spec C 0 pc i len hck hC
      rw [Nat.zero_add] at hd hk
      rcases h with ⟨h0, v, rfl, hf, rfl, rfl⟩ | ⟨h0, v, rfl, rfl, rfl⟩ | ⟨h0, rfl, rfl, rfl⟩ | ⟨h0, as, rest, r1, H1, rfl, hlen, h8, hc, hp⟩ | ⟨h0, v, rest, rfl, hp⟩ | ⟨cnd, st', hb, hp⟩ | ⟨o, pc', ls', st', H1, ha, ho, hp⟩
      · obtain ⟨op, cst, a, b, tl⟩ := i
        dsimp only at h0 hf
        subst h0
        obtain ⟨rfl, rfl, rfl, hrt⟩ := lkI_100 hk
        rw [show cells = cE by omega, show slots = sE by omega]
        exact hend pc lr Hr locs hS hlo (Or.inl ⟨v, rfl, hrt, hf, hd⟩)
      · obtain ⟨op, cst, a, b, tl⟩ := i
        dsimp only at h0
        subst h0
        obtain ⟨rfl, rfl, hrt⟩ := lkI_101 hk
        rw [show cells = cE by omega, show slots = sE by omega]
        exact hend pc lr Hr locs hS hlo (Or.inr (Or.inl ⟨v, rfl, hrt, hd⟩))
      · obtain ⟨op, cst, a, b, tl⟩ := i
        dsimp only at h0
        subst h0
        obtain ⟨rfl, rfl, hrt⟩ := lkI_102 hk
        rw [show cells = cE by omega, show slots = sE by omega]
        exact hend pc lr Hr locs hS hlo (Or.inr (Or.inr ⟨rfl, hrt, hd⟩))
      · obtain ⟨op, cst, a, b, tl⟩ := i
        dsimp only at h0 hlen hc
        subst h0
        obtain ⟨j, hx, rfl, hj, rfl⟩ := lkI_110 hk
        have g1 := Call_grow d _ _ _ _ _ hc
        have g2 := Path_grow (fun m as H r H' => Call_grow d m as H r H') n _ _ _ _ _ _ hp
        have haM : a < nM := mK_lt (by rcases hx with ⟨_, h⟩ | ⟨_, h⟩ | ⟨_, h⟩ <;> omega)
        have hml : mlW oc j a := MLL_ok _ (lk2_mem hj) haM
        have q1 : cells + (nx H1 - nx H) ≤ R.cells := by omega
        have q2 : slots + (su H1 - su H) ≤ R.slots := by omega
        have q3 : cells + (nx H1 - nx H) + (nx H' - nx H1) = cE := by omega
        have q4 : slots + (su H1 - su H) + (su H' - su H1) = sE := by omega
        have hrec : (MT a).2.2 = 0 ∨ ∃ b as', as = vR b :: as' ∧ (kd H b).1 + 1 = 20 + (MT a).2.2 := by
          cases d with
          | zero => exact hc.elim
          | succ d => exact hc.1
        refine so_call (d := d) (j := j) X hK hRf hRl hS hl.2.1 hlo (hcall a as H r1 H1 hml.1 hlen hc) (MI_ok a hml.1) hml hlen h8 hrec ?_ q1 q2 fun Hr' locs' hS' hlo' => ih (pc + 3) ls _ H1 lr Hr' locs' _ _ hp hl hS' hlo' q3 q4
        rcases hx with ⟨rfl, h⟩ | ⟨rfl, h⟩ | ⟨rfl, h⟩
        · exact Or.inl ⟨hd, h⟩
        · exact Or.inr (Or.inl ⟨hd, h⟩)
        · exact Or.inr (Or.inr ⟨hd, h⟩)
      · obtain ⟨op, cst, a, b, tl⟩ := i
        dsimp only at h0 hp
        subst h0
        obtain ⟨df, lo, hi, offs, rfl, rfl, hhi, hdf, hlen, hall⟩ := lkI_120 hk
        by_cases hv : v < 0
        · rw [if_pos hv] at hp
          exact lv_tableOut X.1 X.2.1 hd (Or.inl (by simpa using Int32.lt_iff_toInt_lt.mp hv)) hdf (ih _ ls rest H lr Hr locs cells slots hp hl hS hlo hcs hss)
        · rw [if_neg hv] at hp
          have hv0 : (0 : Int) ≤ v.toInt := by
            have := Int32.not_lt.mp hv
            simpa using Int32.le_iff_toInt_le.mp this
          have hnn : v.toNatClampNeg = v.toInt.toNat := rfl
          by_cases hin : v.toNatClampNeg < offs.size
          · have h2 := List.all_eq_true.mp hall v.toNatClampNeg (List.mem_range.mpr hin)
            simp only [decide_eq_true_eq] at h2
            rw [List.getD_eq_getElem?_getD, List.getElem?_eq_getElem (by omega)] at h2 hp
            refine lv_tableIn X.1 X.2.1 hd (by omega) (by omega) (off := offs.getD v.toNatClampNeg 0) ?_ h2 (ih _ ls rest H lr Hr locs cells slots hp hl hS hlo hcs hss)
            rw [show (v.toInt - 0).toNat = v.toNatClampNeg by rw [hnn]; simp, Array.getD_eq_getD_getElem?, Array.getElem?_eq_getElem hin]
            rfl
          · rw [List.getD_eq_getElem?_getD, List.getElem?_eq_none (by omega)] at hp
            exact lv_tableOut X.1 X.2.1 hd (Or.inr (by omega)) hdf (ih _ ls rest H lr Hr locs cells slots hp hl hS hlo hcs hss)
      · refine br_sound X hd hk hb (fun h1 => ?_) (fun h1 => ?_)
        · rcases hp with ⟨_, hp⟩ | ⟨h2, _⟩
          · exact ih _ ls st' H lr Hr locs cells slots hp hl hS hlo hcs hss
          · exact absurd h1 h2
        · rcases hp with ⟨h2, _⟩ | ⟨_, hp⟩
          · exact absurd h2 h1
          · exact ih _ ls st' H lr Hr locs cells slots hp hl hS hlo hcs hss
      · have g1 := ast_grow ha
        have g2 := Path_grow (fun m as H r H' => Call_grow d m as H r H') n _ _ _ _ _ _ hp
        exact ast_sound X hK ⟨by omega, by omega⟩ hS hl hlo hd hk ha ho (by omega) (by omega) fun lr' Hr' locs' hl' hS' hlo' => ih pc' ls' st' H1 lr' Hr' locs' _ _ hp hl' hS' hlo' (by omega) (by omega)
    · exact h.elim
end SMP
/-! a method's entry -/
theorem lg_sl_map (E : SE) (as : List AV) : lg_sl (as.map (conc E)) = as.map (fun v => Slot.val (conc E v)) := by
  induction as with
  | nil => rfl
  | cons v as ih =>
    show lg_sl (conc E v :: as.map (conc E)) = _
    unfold lg_sl at ih ⊢
    rw [List.flatMap_cons, ih, if_neg (by rw [conc_cat]; decide)]
    rfl
theorem sm_nth_eq {α : Type} : ∀ (l : List α) (k : Nat), sm_nth l k = l[k]? := by
  intro l
  induction l with
  | nil => intro k; rfl
  | cons x l ih =>
    intro k
    cases k with
    | zero => rfl
    | succ k => simp only [sm_nth, ih, List.getElem?_cons_succ]
theorem LocR.entry (E : SE) {as : List AV} {n : Nat} (h : as.length ≤ n) : LocR E n (as ++ List.replicate (n - as.length) vU) ((lg_sl (as.map (conc E)) ++ List.replicate (n - (lg_sl (as.map (conc E))).length) Slot.unset).toArray) := by
  have hll : (lg_sl (as.map (conc E))).length = as.length := by rw [lg_sl_map, List.length_map]
  have he := lv_entry (as.map (conc E)) (n := n) (by rw [hll]; exact h)
  refine ⟨by simp; omega, he.1, he.2.1, fun q hq => ?_⟩
  obtain ⟨k, v, h1, h2, rfl⟩ := (sm_ll_mem E _ 0 q).mp hq
  rw [sm_nth_eq] at h1
  dsimp only
  rw [Nat.zero_add, List.getElem?_toArray]
  by_cases hk : k < as.length
  · rw [List.getElem?_append_left hk] at h1
    rw [List.getElem?_append_left (by rw [hll]; exact hk), lg_sl_map, List.getElem?_map, h1]
    rfl
  · rw [List.getElem?_append_right (by omega)] at h1
    have := List.mem_replicate.mp (List.mem_of_getElem? h1)
    exact absurd this.2 h2
theorem call_sound (l : Launch) (E : SE) (G : Heap) (L : Nat) (xs : Nat → Int32) : ∀ (d mm : Nat) (as : List AV) (H : AH) (r : Option AV) (H' : AH), mm < nM → as.length = mA mm → Call TXT MT d mm as H r H' → MetM l E G L xs d mm as H r H' := by
  intro d
  induction d with
  | zero => intro mm as H r H' _ _ h; exact h.elim
  | succ d ih =>
    intro mm as H r H' hm hlen h
    obtain ⟨hrec, n, hpath⟩ := h
    obtain ⟨m1, m2, m3, m4, m5, m6, m7, m8, m9⟩ := MI_ok mm hm
    refine Met.ofW (cc := bM mm) (maxL := lM mm) (ret := rM mm) m5 rfl ?_
    intro p e s m args below meth c s₁ B hml hv
    obtain ⟨rfl, hS, hK⟩ := hv
    have hown : s.vm.findClass (cN (oM mm)) = some m.cls := by rw [← m3]; exact findClass_of_methodNamed B.named
    have hnm : mI mm = true → meth.name = "<init>" := fun h => by
      rw [(name_of_methodNamed B.named B.method).1]
      exact mI_ok mm hm h
    have X : Cx p m c meth s (oM mm) (mI mm) (lM mm) (bM mm) := ⟨B.exec, B.bytes, hml, hown, hnm⟩
    rw [lg_entry_eq]
    rw [m8] at hpath
    have hlocks := B.notSynchronized
    refine path_sound (d := d) (rt := mR mm) (cE := nx H' - nx H) (sE := su H' - su H) ih X hK (by show d + 9 ≤ d + 1 + 8; omega) (by show 64 * d + 664 ≤ 64 * (d + 1) + 600; omega) (MC_ok mm hm) (Nat.le_refl _) (Nat.le_refl _) ?_ n 0 _ [] H _ s.heap [] 0 0 hpath (LocR.entry E (by omega)) hS (fun q hq => by cases hq) (by omega) (by omega)
    intro pc lr Hr locs hS' hlo hcase
    have hr := B.returns
    rcases hcase with ⟨x, rfl, h3, hf, hd⟩ | ⟨a, rfl, h3, hd⟩ | ⟨rfl, h3, hd⟩
    · obtain ⟨ty, hty, hcd⟩ := mR_int mm hm h3
      rw [hty] at hr
      exact W.zret B.exec B.bytes hr (fit_int hcd h3 hf).1 (fun t ht _ => ⟨rfl, by rw [ht]; exact hS'⟩) hlo hd
    · obtain ⟨ty, hty, hcd⟩ := mR_ref mm hm h3
      rw [hty] at hr
      refine W.aret (v := conc E (vR a)) B.exec B.bytes hr hcd ?_ (fun t ht _ => ⟨rfl, by rw [ht]; exact hS'⟩) hlo hd
      by_cases ha : a = 0
      · subst ha; exact Or.inl (conc_0 E)
      · exact Or.inr ⟨_, conc_R E ha⟩
    · rw [mR_none mm hm h3] at hr
      exact W.vret B.exec B.bytes hr (fun t ht _ => ⟨rfl, by rw [ht]; exact hS'⟩) hlo hd
