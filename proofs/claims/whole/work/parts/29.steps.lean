/-! each instruction of the small machine is what the real one does: fields -/
section SMF
variable {p : Program} {l : Launch} {e : Env} {R : Room} {s : State} {m : MethodId} {args : Array Value} {below : List Frame} {meth : Method} {c : Code} {locs : List Loc} {cells slots : Nat} {Q : State → Prop}
variable {E : SE} {G : Heap} {L : Nat} {xs : Nat → Int32} {H : AH} {Hr : Heap} {oc nL pc : Nat} {ini : Bool} {cc : ByteArray} {lr : Array Slot} {rest : List Value}
theorem so_get {a ci k j : Nat} (X : Cx p m c meth s oc ini nL cc) (hK : Kf E G L xs s) (hS : Sim E G L xs H Hr) (hc : ci < nC) (hk : k < fN ci) (hkd : (kd H a).1 = 20 + ci) (hl : flW oc j ci k) (hd : decode cc pc = .ok (.getfield j, 3))
    (kk : W p l e R s m args below meth c Hr locs cells slots Q (F0 m (pc + 3) lr (fldv E H ci a k :: rest))) : W p l e R s m args below meth c Hr locs cells slots Q (F0 m pc lr (conc E (vR a) :: rest)) := by
  obtain ⟨hx, hb, -, hown, -⟩ := X
  obtain ⟨hka, hna, cell, q1, q2, q3, q4⟩ := hS.obj hkd hc
  rw [conc_R E (K0_ne hka)]
  have hws : ∀ w ∈ u_ws (cN ci) (cT ci) (fN ci), w.before args s = true := fun w hw => hK.1 w (cl_ws ci hc w hw).1 (cl_ws ci hc w hw).2 args
  obtain ⟨hSl, hfc, kC, hkC, hkind⟩ := hK.2.2.1.1 ci _ (cl_nm ci hc)
  obtain ⟨cf, kf, fi, f, hi, hsl⟩ := hSl k hk
  have hf1 := (cl_fld ci hc k hk).1
  have hi2 : s.fieldFound? (cN ci) (cT ci k).2.1 (cT ci k).2.2.1 = some (cf, kf, fi, f) := by rw [← hf1]; exact hi
  have hst := (u_facts hfc hkC (u_lays (ws := u_ws (cN ci) (cT ci) (fN ci)) hws (fun w h => h) hk) hi).1
  rcases hl with hl | ⟨hne, host, hl⟩
  · exact W.getf hx hb hown (hK.1 _ hl rfl args) hi2 hst q1 (by rw [q3]; exact fun h => by cases h) (v := fldv E H ci a k) (by rw [hsl]; exact q4 k hk) rfl rfl hd kk
  · exact va_Wgetf hx hb hown (hK.2.1 _ hl rfl args) hi2 hst q1 (by rw [q3]; exact fun h => by cases h) (v := fldv E H ci a k) (by rw [hsl]; exact q4 k hk) rfl rfl hd kk
/-- a field is written: H1 shows it -/
theorem so_put {a ci k j : Nat} {v : Value} {H1 : AH} (X : Cx p m c meth s oc ini nL cc) (hK : Kf E G L xs s) (hS : Sim E G L xs H Hr) (hlo : okL E locs) (hc : ci < nC) (hk : k < fN ci) (hkd : (kd H a).1 = 20 + ci) (hl : flW oc j ci k) (hd : decode cc pc = .ok (.putfield j, 3))
    (hfin : fF ci k = false ∨ (ini = true ∧ oc = ci)) (hn : narrow (fT ci k) v = v) (hfit : fits (fT ci k) v = true)
    (hn1 : nx H1 = nx H) (hk1 : ∀ b, kd H1 b = kd H b) (ho1 : ∀ b, b ≠ a → gi H1 b = gi H b ∧ gr H1 b = gr H b) (hf1 : ∀ x, x < fN ci → fldv E H1 ci a x = if x = k then v else fldv E H ci a x)
    (kk : ∀ (Hr' : Heap) (locs' : List Loc), Sim E G L xs H1 Hr' → okL E locs' → W p l e R s m args below meth c Hr' locs' cells slots Q (F0 m (pc + 3) lr rest)) : W p l e R s m args below meth c Hr locs cells slots Q (F0 m pc lr (v :: conc E (vR a) :: rest)) := by
  obtain ⟨hx, hb, -, hown, hini⟩ := X
  obtain ⟨hka, hna, cell, q1, q2, q3, q4⟩ := hS.obj hkd hc
  rw [conc_R E (K0_ne hka)]
  have hws : ∀ w ∈ u_ws (cN ci) (cT ci) (fN ci), w.before args s = true := fun w hw => hK.1 w (cl_ws ci hc w hw).1 (cl_ws ci hc w hw).2 args
  obtain ⟨hSl, hfc, kC, hkC, hkind⟩ := hK.2.2.1.1 ci _ (cl_nm ci hc)
  obtain ⟨cf, kf, fi, f, hi, hsl⟩ := hSl k hk
  obtain ⟨hdc, hfF, hty, -⟩ := cl_fld ci hc k hk
  have hi2 : s.fieldFound? (cN ci) (cT ci k).2.1 (cT ci k).2.2.1 = some (cf, kf, fi, f) := by rw [← hdc]; exact hi
  have hly := u_lays (ws := u_ws (cN ci) (cT ci) (fN ci)) hws (fun w h => h) hk
  have hst := (u_facts hfc hkC hly hi).1
  have hap := va_apart (own := cN oc) (Ts := u_ws (cN ci) (cT ci) (fN ci)) hws (fun w h => h) (fT ci) (fun k hk => (cl_fld ci hc k hk).2.2.1) (cl_dis ci hc) hK.2.2.1 (cl_nm ci hc)
  have fin : ∀ H' : Heap, H'[ad E a]? = some (cell.setSlot f.slot v) → H'.size = Hr.size → (∀ q, q ≠ ad E a → H'[q]? = Hr[q]?) → W p l e R s m args below meth c H' (locs ++ [⟨ad E a, f.slot⟩]) cells slots Q (F0 m (pc + 3) lr rest) := by
    intro H' e1 e2 e3
    refine kk H' _ (hS.upd hka hna hn1 hk1 ho1 (fun h2 => by omega) ?_ e2 e3) (hlo.app (Sim.eSle hka))
    rw [cellE_o E (by rw [hk1]; exact hkd) (by have := cl_lt hc; omega)]
    rw [hsl] at e1
    refine ⟨_, cl_nm ci hc, t_OB.to (V := updV (fun x => fldv E H ci a x) k v) ⟨_, e1, q2, q3, t_set q4 hap hk v⟩ (fun x hx => ?_)⟩
    show updV _ k v x = vp_V (flds E H1 ci a) x
    rw [flds_V E H1 hx, hf1 x hx]
    rfl
  by_cases hF : fF ci k = false
  · have hlay : (Cond.lays (cN ci) (cT ci k).1 (cT ci k).2.1 (cT ci k).2.2.1).before args s = true := by
      have h0 := hws _ (u_in_lay hk)
      unfold u_lay at h0
      rw [if_neg (by rw [hfF, hF]; decide)] at h0
      exact h0
    have h6 := u_store hfc hkC hkind hlay hi hty hn hfit
    rcases hl with hl | ⟨hne, host, hl⟩
    · exact W.putK hx hb (f := f) ⟨hown, hK.1 _ hl rfl args, ⟨_, _, _, hi2⟩, hst⟩ (by rw [q2]; exact h6) q1 q3 (by rw [hsl]; exact k2_hasslot (q4 k hk)) rfl rfl hd fin
    · exact va_WputK hx hb (f := f) hown (hK.2.1 _ hl rfl args) hi2 hst (by rw [q2]; exact h6) q1 q3 (by rw [hsl]; exact k2_hasslot (q4 k hk)) rfl rfl hd fin
  · have hF : fF ci k = true := by simpa using hF
    obtain ⟨hi0, rfl⟩ : ini = true ∧ oc = ci := by
      rcases hfin with h | h
      · rw [h] at hF; cases hF
      · exact h
    have hlay : (Cond.laysFinal (cN oc) (cT oc k).1 (cT oc k).2.1 (cT oc k).2.2.1).before args s = true := by
      have h0 := hws _ (u_in_lay hk)
      unfold u_lay at h0
      rw [if_pos (by rw [hfF, hF])] at h0
      exact h0
    have hcf : m.cls = cf := by
      obtain ⟨_, _, c', _, _, _, -, -, hf', -, -, -, hown2, -⟩ := Cond.laysFinal_spec hlay
      have e1 : c' = cf := by have := hi.symm.trans hf'; simp at this; exact this.1.symm
      rw [hdc] at hown2
      rw [← e1]; exact Option.some.inj (hown.symm.trans hown2)
    have h6 := u_fits hfc hkC hkind (Or.inr hlay) hi hty hn hfit
    rcases hl with hl | ⟨hne, host, hl⟩
    · exact W.putFinK hx hb hown (hK.1 _ hl rfl args) hi2 hst hcf (hini hi0) (by rw [q2]; exact h6) q1 q3 (by rw [hsl]; exact k2_hasslot (q4 k hk)) rfl rfl hd fin
    · exact absurd rfl hne
/-! rows -/
theorem in_lt {i : Int32} {n : Nat} (h : vp_in i n) : i.toNatClampNeg < n := Nat.not_le.mp fun q => h (Or.inr q)
theorem so_iald {a : Nat} {j : Int32} (X : Cx p m c meth s oc ini nL cc) (hK : Kf E G L xs s) (hS : Sim E G L xs H Hr) (hkd : (kd H a).1 = 1) (hin : vp_in j (kd H a).2) (hd : decode cc pc = .ok (.iaload, 1))
    (kk : W p l e R s m args below meth c Hr locs cells slots Q (F0 m (pc + 1) lr (.int (gi H a j.toNatClampNeg) :: rest))) : W p l e R s m args below meth c Hr locs cells slots Q (F0 m pc lr (.int j :: conc E (vR a) :: rest)) := by
  obtain ⟨hka, hna, q1⟩ := hS.int hkd
  rw [conc_R E (K0_ne hka)]
  exact W.iald (v := .int (gi H a j.toNatClampNeg)) X.1 X.2.1 q1 ((hK.2.2.1.2 0 _ rfl).1 (kd H a).2 (fun j => .int (gi H a j))) (fun q => by cases q) (by show ¬ (j < 0 ∨ (arrV _ _ _).slots.size ≤ _); rw [arrV_size]; exact hin) (by show (arrV _ _ _).slots[_]? = _; rw [arrV_read _ _ (in_lt hin)]) rfl rfl hd kk
theorem so_cald {a : Nat} {j : Int32} (X : Cx p m c meth s oc ini nL cc) (hK : Kf E G L xs s) (hS : Sim E G L xs H Hr) (hkd : (kd H a).1 = 2) (hin : vp_in j (kd H a).2) (hd : decode cc pc = .ok (.caload, 1))
    (kk : W p l e R s m args below meth c Hr locs cells slots Q (F0 m (pc + 1) lr (.int (gi H a j.toNatClampNeg) :: rest))) : W p l e R s m args below meth c Hr locs cells slots Q (F0 m pc lr (.int j :: conc E (vR a) :: rest)) := by
  obtain ⟨hka, hna, q1⟩ := hS.chr hkd
  rw [conc_R E (K0_ne hka)]
  exact W.cald (v := .int (gi H a j.toNatClampNeg)) X.1 X.2.1 q1 ((hK.2.2.1.2 1 _ rfl).1 (kd H a).2 (fun j => .int (gi H a j))) (fun q => by cases q) (by show ¬ (j < 0 ∨ (arrV _ _ _).slots.size ≤ _); rw [arrV_size]; exact hin) (by show (arrV _ _ _).slots[_]? = _; rw [arrV_read _ _ (in_lt hin)]) rfl rfl hd kk
theorem so_zald {a : Nat} {j : Int32} (X : Cx p m c meth s oc ini nL cc) (hK : Kf E G L xs s) (hS : Sim E G L xs H Hr) (hkd : (kd H a).1 = 3) (hin : vp_in j (kd H a).2) (hd : decode cc pc = .ok (.baload, 1))
    (kk : W p l e R s m args below meth c Hr locs cells slots Q (F0 m (pc + 1) lr (.int (gi H a j.toNatClampNeg) :: rest))) : W p l e R s m args below meth c Hr locs cells slots Q (F0 m pc lr (.int j :: conc E (vR a) :: rest)) := by
  obtain ⟨hka, hna, q1⟩ := hS.boo hkd
  rw [conc_R E (K0_ne hka)]
  exact W.zald (v := .int (gi H a j.toNatClampNeg)) X.1 X.2.1 q1 ((hK.2.2.1.2 2 _ rfl).1 (kd H a).2 (fun j => .int (gi H a j))) (fun q => by cases q) (by show ¬ (j < 0 ∨ (arrV _ _ _).slots.size ≤ _); rw [arrV_size]; exact hin) (by show (arrV _ _ _).slots[_]? = _; rw [arrV_read _ _ (in_lt hin)]) rfl rfl hd kk
theorem so_aald {a ci : Nat} {j : Int32} (X : Cx p m c meth s oc ini nL cc) (hK : Kf E G L xs s) (hS : Sim E G L xs H Hr) (hci : ci ∈ RCL) (hkd : (kd H a).1 = 60 + ci) (hin : vp_in j (kd H a).2) (hd : decode cc pc = .ok (.aaload, 1))
    (kk : W p l e R s m args below meth c Hr locs cells slots Q (F0 m (pc + 1) lr (va_rf (rfh E (gr H a j.toNatClampNeg)) :: rest))) : W p l e R s m args below meth c Hr locs cells slots Q (F0 m pc lr (.int j :: conc E (vR a) :: rest)) := by
  obtain ⟨hka, hna, q1⟩ := hS.row hkd
  rw [conc_R E (K0_ne hka)]
  exact W.aald (v := va_rf (rfh E (gr H a j.toNatClampNeg))) (ty := .object (cN ci)) X.1 X.2.1 q1 ((hK.2.2.2.1 ci hci).1 (kd H a).2 (fun j => va_rf (rfh E (gr H a j)))) rfl (fun q => by cases q) (by show ¬ (j < 0 ∨ (arrV _ _ _).slots.size ≤ _); rw [arrV_size]; exact hin) (by show (arrV _ _ _).slots[_]? = _; rw [arrV_read _ _ (in_lt hin)]) rfl rfl hd kk
/-- an int is written into a row: the cell behind it -/
theorem so_cell_i {a : Nat} {cA : ClassId} {n j : Nat} {x : Int32} : (vp_cell cA (n, .inl (gi H a))).setSlot j (.int x) = vp_cell cA (n, .inl (gi (si H a j x) a)) := by
  rw [vp_cell_i, vp_cell_i, arrV_store]
  congr 1
  funext q
  by_cases hq : q = j
  · subst hq; simp [updV, gi_si]
  · simp [updV, gi_si, hq]
theorem gi_si_ne {a b j : Nat} {x : Int32} (h : b ≠ a) : gi (si H a j x) b = gi H b := by
  funext k
  rw [gi_si, if_neg (fun q => h q.1)]
theorem so_iast {a : Nat} {j x : Int32} (X : Cx p m c meth s oc ini nL cc) (hK : Kf E G L xs s) (hS : Sim E G L xs H Hr) (hlo : okL E locs) (hkd : (kd H a).1 = 1) (hin : vp_in j (kd H a).2) (hd : decode cc pc = .ok (.iastore, 1))
    (kk : ∀ (Hr' : Heap) (locs' : List Loc), Sim E G L xs (si H a j.toNatClampNeg x) Hr' → okL E locs' → W p l e R s m args below meth c Hr' locs' cells slots Q (F0 m (pc + 1) lr rest)) : W p l e R s m args below meth c Hr locs cells slots Q (F0 m pc lr (.int x :: .int j :: conc E (vR a) :: rest)) := by
  obtain ⟨hka, hna, q1⟩ := hS.int hkd
  rw [conc_R E (K0_ne hka)]
  refine W.iast X.1 X.2.1 q1 ((hK.2.2.1.2 0 _ rfl).1 (kd H a).2 (fun j => .int (gi H a j))) (fun q => by cases q) (by show ¬ (j < 0 ∨ (arrV _ _ _).slots.size ≤ _); rw [arrV_size]; exact hin) rfl rfl hd fun H' e1 e2 e3 => ?_
  refine kk H' _ (hS.upd hka hna nx_si (fun b => kd_si) (fun b hb => ⟨gi_si_ne hb, rfl⟩) (fun h2 => by omega) ?_ e2 e3) (hlo.app (Sim.eSle hka))
  rw [cellE_1 E (by rw [kd_si]; exact hkd), kd_si]
  show H'[ad E a]? = some (vp_cell _ _)
  rw [e1, so_cell_i]
theorem vp_nar_c (x : Int32) : narrow .char (.int x) = .int (vp_nar .char x) := rfl
theorem vp_nar_z (x : Int32) : narrow .boolean (.int x) = .int (vp_nar .boolean x) := rfl
theorem so_zast {a : Nat} {j x : Int32} (X : Cx p m c meth s oc ini nL cc) (hK : Kf E G L xs s) (hS : Sim E G L xs H Hr) (hlo : okL E locs) (hkd : (kd H a).1 = 3) (hin : vp_in j (kd H a).2) (hd : decode cc pc = .ok (.bastore, 1))
    (kk : ∀ (Hr' : Heap) (locs' : List Loc), Sim E G L xs (si H a j.toNatClampNeg (vp_nar .boolean x)) Hr' → okL E locs' → W p l e R s m args below meth c Hr' locs' cells slots Q (F0 m (pc + 1) lr rest)) : W p l e R s m args below meth c Hr locs cells slots Q (F0 m pc lr (.int x :: .int j :: conc E (vR a) :: rest)) := by
  obtain ⟨hka, hna, q1⟩ := hS.boo hkd
  rw [conc_R E (K0_ne hka)]
  refine W.zast X.1 X.2.1 q1 ((hK.2.2.1.2 2 _ rfl).1 (kd H a).2 (fun j => .int (gi H a j))) (fun q => by cases q) (by show ¬ (j < 0 ∨ (arrV _ _ _).slots.size ≤ _); rw [arrV_size]; exact hin) rfl rfl hd fun H' e1 e2 e3 => ?_
  refine kk H' _ (hS.upd hka hna nx_si (fun b => kd_si) (fun b hb => ⟨gi_si_ne hb, rfl⟩) (fun h2 => by omega) ?_ e2 e3) (hlo.app (Sim.eSle hka))
  rw [cellE_3 E (by rw [kd_si]; exact hkd), kd_si]
  show H'[ad E a]? = some (vp_cell _ _)
  rw [e1, vp_nar_z, so_cell_i]
theorem nar_fits (x : Int32) : fits .char (.int (vp_nar .char x)) = true := by
  show (decide ((0 : Int32) ≤ x.toUInt32.toUInt16.toUInt32.toInt32) && decide (x.toUInt32.toUInt16.toUInt32.toInt32 ≤ 65535)) = true
  have h : x.toUInt32.toUInt16.toUInt32.toNat < 65536 := by
    have := x.toUInt32.toUInt16.toNat_lt
    simpa using this
  have h2 : x.toUInt32.toUInt16.toUInt32.toInt32.toInt = (x.toUInt32.toUInt16.toUInt32.toNat : Int) := by
    generalize x.toUInt32.toUInt16.toUInt32 = u at h
    show u.toInt32.toBitVec.toInt = _
    rw [show u.toInt32.toBitVec = u.toBitVec from rfl, BitVec.toInt_eq_toNat_cond]
    have : u.toBitVec.toNat = u.toNat := rfl
    rw [this, if_pos (by omega)]
  simp only [Bool.and_eq_true, decide_eq_true_eq, Int32.le_iff_toInt_le, h2]
  refine ⟨?_, ?_⟩
  · show (0 : Int) ≤ _; omega
  · show _ ≤ (65535 : Int); omega
theorem so_cast {a : Nat} {j x : Int32} (X : Cx p m c meth s oc ini nL cc) (hK : Kf E G L xs s) (hS : Sim E G L xs H Hr) (hlo : okL E locs) (hkd : (kd H a).1 = 2) (hin : vp_in j (kd H a).2) (hd : decode cc pc = .ok (.castore, 1))
    (kk : ∀ (Hr' : Heap) (locs' : List Loc), Sim E G L xs (si H a j.toNatClampNeg (vp_nar .char x)) Hr' → okL E locs' → W p l e R s m args below meth c Hr' locs' cells slots Q (F0 m (pc + 1) lr rest)) : W p l e R s m args below meth c Hr locs cells slots Q (F0 m pc lr (.int x :: .int j :: conc E (vR a) :: rest)) := by
  obtain ⟨hka, hna, q1⟩ := hS.chr hkd
  rw [conc_R E (K0_ne hka)]
  refine W.cast X.1 X.2.1 q1 ((hK.2.2.1.2 1 _ rfl).1 (kd H a).2 (fun j => .int (gi H a j))) (fun q => by cases q) (by show ¬ (j < 0 ∨ (arrV _ _ _).slots.size ≤ _); rw [arrV_size]; exact hin) rfl rfl hd fun H' e1 e2 e3 => ?_
  refine kk H' _ (hS.upd hka hna nx_si (fun b => kd_si) (fun b hb => ⟨gi_si_ne hb, rfl⟩) (fun _ k => ?_) ?_ e2 e3) (hlo.app (Sim.eSle hka))
  · rw [gi_si]
    split
    · exact nar_fits x
    · exact hS.2.2.2.2.2 a hkd k
  · rw [cellE_2 E (by rw [kd_si]; exact hkd), kd_si]
    show H'[ad E a]? = some (vp_cell _ _)
    rw [e1, vp_nar_c, so_cell_i]
theorem so_cell_q {a : Nat} {cA : ClassId} {n j r : Nat} : (vp_cell cA (n, .inr (.inr (.inr (.inr (fun j => rfh E (gr H a j))))))).setSlot j (va_rf (rfh E r)) = vp_cell cA (n, .inr (.inr (.inr (.inr (fun k => rfh E (gr (sr H a j r) a k)))))) := by
  rw [vp_cell_q, vp_cell_q, arrV_store]
  congr 1
  funext q
  by_cases hq : q = j
  · subst hq; simp [updV, gr_sr]
  · simp [updV, gr_sr, hq]
theorem gr_sr_ne {a b j x : Nat} (h : b ≠ a) : gr (sr H a j x) b = gr H b := by
  funext k
  rw [gr_sr, if_neg (fun q => h q.1)]
theorem so_aast {a r ci : Nat} {j : Int32} (X : Cx p m c meth s oc ini nL cc) (hK : Kf E G L xs s) (hS : Sim E G L xs H Hr) (hlo : okL E locs) (hci : ci ∈ RCL) (hkd : (kd H a).1 = 60 + ci) (hin : vp_in j (kd H a).2) (hr : (kd H r).1 = 20 + ci) (hd : decode cc pc = .ok (.aastore, 1))
    (kk : ∀ (Hr' : Heap) (locs' : List Loc), Sim E G L xs (sr H a j.toNatClampNeg r) Hr' → okL E locs' → W p l e R s m args below meth c Hr' locs' cells slots Q (F0 m (pc + 1) lr rest)) : W p l e R s m args below meth c Hr locs cells slots Q (F0 m pc lr (conc E (vR r) :: .int j :: conc E (vR a) :: rest)) := by
  obtain ⟨hka, hna, q1⟩ := hS.row hkd
  have hcl := rcl_lt ci hci
  obtain ⟨hkr, hnr, cellV, g1, g2, g3, -⟩ := hS.obj hr hcl
  have hcr : conc E (vR r) = .ref (ad E r) := conc_R E (K0_ne hkr)
  rw [conc_R E (K0_ne hka), hcr]
  have hcls := (hK.2.2.1.1 ci _ (cl_nm ci hcl)).2
  obtain ⟨kA, comp, k1, k2, k3, -⟩ := (hK.2.2.2.1 ci hci).2.1
  have hcomp : comp = (eD E).1 ci := Option.some.inj (k3.symm.trans hcls.1)
  subst hcomp
  obtain ⟨kC, hkC, -⟩ := hcls.2
  refine W.aast X.1 X.2.1 q1 (fun q h => by cases h) (fun h => by cases h) k1 k2 rfl hkC ⟨fun q => hin (Or.inl q), by show _ < (arrV _ _ _).slots.size; rw [arrV_size]; exact in_lt hin⟩ g1 (fun q h => by rw [g3] at h; cases h) (by rw [g2]; exact hkC) (by rw [g2]; exact va_assign hcls) rfl rfl hd fun H' e1 e2 e3 => ?_
  refine kk H' _ (hS.upd hka hna nx_sr (fun b => kd_sr) (fun b hb => ⟨rfl, gr_sr_ne hb⟩) (fun h2 => by omega) ?_ e2 e3) (hlo.app (Sim.eSle hka))
  rw [cellE_q E (by rw [kd_sr]; exact hkd), kd_sr]
  show H'[ad E a]? = some (vp_cell _ _)
  rw [e1, show Value.ref (ad E r) = va_rf (rfh E r) by rw [← hcr]; rfl, so_cell_q]
end SMF
