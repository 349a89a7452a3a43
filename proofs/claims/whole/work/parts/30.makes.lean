/-! cells are made -/
theorem sum_cat (E : SE) (st : List AV) : ((st.map (conc E)).map fun v => v.category).sum = st.length := by
  induction st with
  | nil => rfl
  | cons v st ih => simp only [List.map_cons, List.sum_cons, ih, conc_cat, List.length_cons]; omega
theorem nfw : nativeFrameWords "java/lang/System" "arraycopy" 5 ≤ 500 := by decide
section SMN
variable {p : Program} {l : Launch} {e : Env} {R : Room} {s : State} {m : MethodId} {args : Array Value} {below : List Frame} {meth : Method} {c : Code} {locs : List Loc} {cells slots : Nat} {Q : State → Prop}
variable {E : SE} {G : Heap} {L : Nat} {xs : Nat → Int32} {H : AH} {Hr : Heap} {oc nL pc : Nat} {ini : Bool} {cc : ByteArray} {lr : Array Slot} {rest : List Value}
theorem Sim.nxt (hS : Sim E G L xs H Hr) : conc E (vR (nx H)) = .ref Hr.size := by
  have h := hS.2.2.2.1.1
  rw [conc_R E (K0_ne h), ad_new E h, hS.2.1]
theorem akd_new {k n w : Nat} : kd (al H k n w) (nx H) = (k, n) := by rw [kd_al, if_pos rfl]
theorem agi_new {k n w : Nat} : gi (al H k n w) (nx H) = fun _ => 0 := by funext j; rw [gi_al, if_pos rfl]
theorem agr_new {k n w : Nat} : gr (al H k n w) (nx H) = fun _ => 0 := by funext j; rw [gr_al, if_pos rfl]
theorem so_newa {t : ArrayType} {k n : Nat} {x : Int32} (X : Cx p m c meth s oc ini nL cc) (hK : Kf E G L xs s) (hS : Sim E G L xs H Hr) (ht : (t = .int ∧ k = 1) ∨ (t = .char ∧ k = 2) ∨ (t = .boolean ∧ k = 3)) (hx0 : ¬ x < 0) (hn : x.toNatClampNeg = n) (hb : n ≤ 65536) (hd : decode cc pc = .ok (.newarray t, 2)) (hc : cells + 1 ≤ R.cells) (hs : slots + n ≤ R.slots)
    (kk : ∀ Hr' : Heap, Sim E G L xs (al H k n n) Hr' → W p l e R s m args below meth c Hr' locs (cells + 1) (slots + n) Q (F0 m (pc + 2) lr (conc E (vR (nx H)) :: rest))) : W p l e R s m args below meth c Hr locs cells slots Q (F0 m pc lr (.int x :: rest)) := by
  rw [hS.nxt] at kk
  have hw : (Cond.arrayClass (newarray.typeOf t)).before args s = true := by
    rcases ht with ⟨rfl, -⟩ | ⟨rfl, -⟩ | ⟨rfl, -⟩
    · exact hK.1 _ ar_int rfl args
    · exact hK.1 _ ar_char rfl args
    · exact hK.1 _ ar_boolean rfl args
  have hby : n * componentBytes (newarray.typeOf t) ≤ 536870912 := by
    rcases ht with ⟨rfl, -⟩ | ⟨rfl, -⟩ | ⟨rfl, -⟩
    · show n * 4 ≤ _; omega
    · show n * 2 ≤ _; omega
    · show n * 1 ≤ _; omega
  refine va_newaK X.1 X.2.1 hw rfl hd rfl hx0 hn hby hc hs rfl fun H' cA e1 e2 e3 h4 h5 => kk H' (hS.new (by omega) ?_ e2 e3)
  have hcA : ∀ {ty : FieldType} {i : Nat} {ci : ClassId}, ([(eI E, FieldType.int), (eC E, .char), (eZ E, .boolean)] : List (ClassId × FieldType))[i]? = some (ci, ty) → newarray.typeOf t = ty → (∀ n, ty ≠ .object n) → cA = ci := by
    intro ty i ci h1 h2 h3
    have h6 := (hK.2.2.1.2 i _ h1).2
    rw [h2] at h5
    cases ty <;> first
      | exact Option.some.inj (h5.symm.trans h6)
      | exact absurd rfl (h3 _)
  rcases ht with ⟨rfl, rfl⟩ | ⟨rfl, rfl⟩ | ⟨rfl, rfl⟩
  · rw [cellE_1 E (by rw [akd_new]), akd_new, agi_new, ← hcA (i := 0) rfl rfl (fun _ h => by cases h)]
    exact e1
  · rw [cellE_2 E (by rw [akd_new]), akd_new, agi_new, ← hcA (i := 1) rfl rfl (fun _ h => by cases h)]
    exact e1
  · rw [cellE_3 E (by rw [akd_new]), akd_new, agi_new, ← hcA (i := 2) rfl rfl (fun _ h => by cases h)]
    exact e1
theorem so_anew {ci j n : Nat} {x : Int32} (X : Cx p m c meth s oc ini nL cc) (hK : Kf E G L xs s) (hS : Sim E G L xs H Hr) (hci : ci ∈ RCL) (hl : Cond.classLink (cN oc) j (cN ci) ∈ lw_tbl) (hx0 : ¬ x < 0) (hn : x.toNatClampNeg = n) (hb : n ≤ 65536) (hd : decode cc pc = .ok (.anewarray j, 3)) (hc : cells + 1 ≤ R.cells) (hs : slots + n ≤ R.slots)
    (kk : ∀ Hr' : Heap, Sim E G L xs (al H (60 + ci) n n) Hr' → W p l e R s m args below meth c Hr' locs (cells + 1) (slots + n) Q (F0 m (pc + 3) lr (conc E (vR (nx H)) :: rest))) : W p l e R s m args below meth c Hr locs cells slots Q (F0 m pc lr (.int x :: rest)) := by
  rw [hS.nxt] at kk
  subst hn
  obtain ⟨r1, r2, r3⟩ := hK.2.2.2.1 ci hci
  have hlt := rcl_lt ci hci
  have hl40 := cl_lt hlt
  refine W.anew X.1 X.2.1 X.2.2.2.1 (hK.1 _ hl rfl args) r3.use rfl hd rfl hx0 (by omega) hc hs fun cA kA comp h1 h2 h3 h4 => ?_
  obtain ⟨kA', comp', k1, k2, k3, k4⟩ := r2
  have hcA : cA = eR E ci := Option.some.inj (h1.symm.trans k4)
  subst hcA
  refine kk _ (hS.new (Or.inr (Or.inr (Or.inr ⟨by omega, by omega⟩))) ?_ (by simp) (fun q hq => ?_))
  · rw [cellE_q E (by rw [akd_new]), akd_new, agr_new]
    show (Hr.push _)[Hr.size]? = some (vp_cell _ _)
    rw [Array.getElem?_push_size, vp_cell_q]
    congr 1
    show _ = ({ cls := _, slots := Array.ofFn _, vm := _ } : Cell)
    congr 1
    apply Array.ext
    · simp
    · intro i h1 h2
      simp [rfh, va_rf]
  · rw [Array.getElem?_push, if_neg (by omega)]
theorem so_newc {ci j : Nat} (X : Cx p m c meth s oc ini nL cc) (hK : Kf E G L xs s) (hS : Sim E G L xs H Hr) (hci : ci < nC) (hl : Cond.classLink (cN oc) j (cN ci) ∈ lw_tbl) (hi1 : Cond.instantiable (cN ci) (fN ci) ∈ lw_tbl) (hi2 : Cond.initialized (cN ci) ∈ lw_tbl) (hd : decode cc pc = .ok (.new j, 3)) (hc : cells + 1 ≤ R.cells) (hs : slots + fN ci ≤ R.slots)
    (kk : ∀ Hr' : Heap, Sim E G L xs (al H (20 + ci) 0 (fN ci)) Hr' → W p l e R s m args below meth c Hr' locs (cells + 1) (slots + fN ci) Q (F0 m (pc + 3) lr (conc E (vR (nx H)) :: rest))) : W p l e R s m args below meth c Hr locs cells slots Q (F0 m pc lr rest) := by
  rw [hS.nxt] at kk
  have hl40 := cl_lt hci
  have hKn := hK.2.2.1.1 ci _ (cl_nm ci hci)
  have hws : ∀ w ∈ u_ws (cN ci) (cT ci) (fN ci), w.before args s = true := fun w hw => hK.1 w (cl_ws ci hci w hw).1 (cl_ws ci hci w hw).2 args
  refine W.newcK X.1 X.2.1 X.2.2.2.1 (hK.1 _ hl rfl args) (hK.1 _ hi1 rfl args) (hK.1 _ hi2 rfl args) rfl hd hc hs hKn.2.1 rfl fun H' kC hkC e1 e2 e3 => kk H' (hS.new (Or.inr (Or.inr (Or.inr ⟨by omega, by omega⟩))) ?_ e2 e3)
  rw [cellE_o E (by rw [akd_new]) (by omega)]
  refine ⟨_, cl_nm ci hci, (u_born (fT ci) (ws := u_ws (cN ci) (cT ci) (fN ci)) hws (fun w h => h) hKn hkC e1 (fun k hk => (cl_fld ci hci k hk).2.2.1)).to (fun k hk => ?_)⟩
  rw [flds_V E _ hk]
  unfold fldv
  rw [agi_new, agr_new]
  have ht := (cl_fld ci hci k hk).2.2.2
  have h3 := cl_c3 ci hci k hk
  unfold fI
  revert ht
  generalize fT ci k = ty
  generalize fC ci k = z at h3 ⊢
  intro ht
  cases ty <;> simp only [tcode] at ht <;> subst ht <;> first
    | (exfalso; omega)
    | rfl
    | (simp [defaultValue, rfh, va_rf]; done)
theorem so_copy {v r jj : Nat} {n q p0 : Int32} {st : List AV} (X : Cx p m c meth s oc ini nL cc) (hK : Kf E G L xs s) (hR : 8 ≤ R.frames ∧ 600 ≤ R.locals) (hS : Sim E G L xs H Hr) (hsz : lr.size = nL) (hlo : okL E locs) (h8 : st.length ≤ 8) (hj : (oc, jj, 1051) ∈ MLL) (h1 : (kd H v).1 = 2) (h2 : (kd H r).1 = 2) (h3 : ¬ p0 < 0) (h4 : ¬ q < 0) (h5 : ¬ n < 0) (h6 : p0.toNatClampNeg + n.toNatClampNeg ≤ (kd H v).2) (h7 : q.toNatClampNeg + n.toNatClampNeg ≤ (kd H r).2) (hd : decode cc pc = .ok (.invokestatic jj, 3))
    (kk : ∀ (Hr' : Heap) (locs' : List Loc), Sim E G L xs (cp H v p0.toNatClampNeg r q.toNatClampNeg n.toNatClampNeg) Hr' → okL E locs' → W p l e R s m args below meth c Hr' locs' cells slots Q (F0 m (pc + 3) lr (st.map (conc E)))) : W p l e R s m args below meth c Hr locs cells slots Q (F0 m pc lr ((vI n :: vI q :: vR r :: vI p0 :: vR v :: st).map (conc E))) := by
  obtain ⟨hkv, hnv, hc0⟩ := hS.chr h1
  obtain ⟨hkr, hnr, hc1⟩ := hS.chr h2
  show W _ _ _ _ _ _ _ _ _ _ _ _ _ _ _ (F0 m pc lr (.int n :: .int q :: conc E (vR r) :: .int p0 :: conc E (vR v) :: st.map (conc E)))
  rw [conc_R E (K0_ne hkr), conc_R E (K0_ne hkv)]
  have nn : ∀ z : Int32, ¬ z < 0 → z.toInt = (z.toNatClampNeg : Int) := by
    intro z hz
    have hz0 : (0 : Int) ≤ z.toInt := by
      have := Int32.not_lt.mp hz
      simpa using Int32.le_iff_toInt_le.mp this
    show z.toInt = ((z.toInt.toNat : Nat) : Int)
    omega
  intro T hT Z
  obtain ⟨-, k0, hk0, cm0, hkk0⟩ := (hK.2.2.1.2 1 _ rfl).1 (kd H v).2 (fun j => .int (gi H v j))
  obtain ⟨-, k1, hk1, cm1, hkk1⟩ := (hK.2.2.1.2 1 _ rfl).1 (kd H r).2 (fun j => .int (gi H r j))
  obtain ⟨vm', Z', step⟩ := Z.arraycopy X.1 X.2.2.2.1 (hK.1 _ (MLL_cpy _ hj rfl) rfl args) (hK.1 _ MX_cpy.1 rfl args) (hK.1 _ MX_cpy.2.1 rfl args) (hK.1 _ MX_cpy.2.2 rfl args) (src := ad E v) (dst := ad E r) (cs := vp_cell (eC E) ((kd H v).2, .inl (gi H v))) (cd := vp_cell (eC E) ((kd H r).2, .inl (gi H r))) (srcPos := p0) (destPos := q) (n := n) (by rw [hT]; exact hc0) (by rw [hT]; exact hc1)
    (fun _ h => by cases h) (fun _ h => by cases h) (fun h => by cases h) (fun h => by cases h) hk0 hk1 hkk0 hkk1 (by simp [refKind]) h3 h4 h5
    (by rw [nn p0 h3, nn n h5]; show ¬ _ > ((arrV (eC E) (kd H v).2 (fun j => .int (gi H v j))).slots.size : Int); rw [arrV_size]; omega)
    (by rw [nn q h4, nn n h5]; show ¬ _ > ((arrV (eC E) (kd H r).2 (fun j => .int (gi H r j))).slots.size : Int); rw [arrV_size]; omega)
    (fun vm₁ _ i hi => by
      have e : (vp_cell (eC E) ((kd H v).2, .inl (gi H v))).slots.getD (p0.toNatClampNeg + i) .null = .int (gi H v (p0.toNatClampNeg + i)) := by
        show (arrV (eC E) (kd H v).2 (fun j => .int (gi H v j))).slots.getD _ _ = _
        rw [Array.getD_eq_getD_getElem?, arrV_read _ _ (by omega)]
        rfl
      refine ⟨?_, ?_⟩
      · rw [e]
        exact hS.2.2.2.2.2 v h1 _
      · rw [e]
        exact trivial)
    (g := F0 m pc lr (.int n :: .int q :: .ref (ad E r) :: .int p0 :: .ref (ad E v) :: st.map (conc E))) rfl (hsz.trans X.2.2.1.symm) (rest := st.map (conc E)) rfl (by rw [X.2.1]; exact hd) (by omega) (by show 2 * 0 + _ + _ ≤ _; rw [sum_cat]; exact Nat.le_trans (Nat.add_le_add (Nat.add_le_add (Nat.le_refl _) h8) (Nat.add_le_add_right nfw 11)) (by omega))
  have e1 : copied (vp_cell (eC E) ((kd H v).2, .inl (gi H v))) (vp_cell (eC E) ((kd H r).2, .inl (gi H r))) p0 q n = vp_cell (eC E) ((kd H r).2, .inl (gi (cp H v p0.toNatClampNeg r q.toNatClampNeg n.toNatClampNeg) r)) := by
    refine (va_copied (fun z => .int z) (eC E) (eC E) (gi H v) (gi H r) h6).trans ?_
    rw [vp_cell_i]
    congr 1
    funext k
    rw [gi_cp]
    simp [va_cpy]
  rw [e1] at Z' step
  have hlt : ad E r < Hr.size := (Array.getElem?_eq_some_iff.mp hc1).1
  obtain ⟨t, a1, b1⟩ := kk (Hr.setIfInBounds (ad E r) (vp_cell (eC E) ((kd H r).2, .inl (gi (cp H v p0.toNatClampNeg r q.toNatClampNeg n.toNatClampNeg) r)))) _ (hS.upd hkr hnr nx_cp (fun b => kd_cp) (fun b hb => ⟨by funext k; rw [gi_cp, if_neg (fun q => hb q.1)], rfl⟩) (fun _ k => by
      rw [gi_cp]
      split
      · exact hS.2.2.2.2.2 v h1 _
      · exact hS.2.2.2.2.2 r h2 _) (by
      rw [cellE_2 E (by rw [kd_cp]; exact h2), kd_cp]
      show (Hr.setIfInBounds (ad E r) _)[ad E r]? = some _
      simp [Array.getElem?_setIfInBounds, hlt]) (by simp) (fun z hz => by simp [Array.getElem?_setIfInBounds, Ne.symm hz])) (fun z hz => by
      rcases List.mem_append.mp hz with h | h
      · exact hlo z h
      · obtain ⟨w, -, hw⟩ := List.mem_map.mp h
        rw [← hw]
        exact Sim.eSle hkr) _ (by rw [← hT]; rfl) Z'
  exact ⟨t, step t a1, b1⟩
end SMN
