/-! length and charAt of a text constant: the JDK's own code, walked -/
abbrev yJl : MethodName := ⟨"java/lang/String", "length", "()I"⟩
abbrev yJc : MethodName := ⟨"java/lang/String", "coder", "()B"⟩
abbrev yJa : MethodName := ⟨"java/lang/String", "charAt", "(I)C"⟩
abbrev yJi : MethodName := ⟨"java/lang/String", "isLatin1", "()Z"⟩
abbrev yJh : MethodName := ⟨"java/lang/StringLatin1", "charAt", "([BI)C"⟩
abbrev yJk : MethodName := ⟨"java/lang/String", "checkIndex", "(II)V"⟩
abbrev yJp : MethodName := ⟨"jdk/internal/util/Preconditions", "checkIndex", "(IILjava/util/function/BiFunction;)I"⟩
theorem wj_iS : Cond.initialized "java/lang/String" ∈ lw_tbl := wB_mem (p := 15) (by decide +kernel)
theorem wj_iL : Cond.initialized "java/lang/StringLatin1" ∈ lw_tbl := wB_mem (p := 16) (by decide +kernel)
theorem wj_iP : Cond.initialized "jdk/internal/util/Preconditions" ∈ lw_tbl := wB_mem (p := 17) (by decide +kernel)
theorem wj_l2 : Cond.instanceMethod yJl ∈ lw_tbl := wB_mem (p := 640) (by decide +kernel)
theorem wj_l3 : Cond.selects "java/lang/String" yJl yJl ∈ lw_tbl := wB_mem (p := 641) (by decide +kernel)
theorem wj_l4 : Cond.code yJl prog_15_method_54_code 1 (some .int) ∈ lw_tbl := wB_mem (p := 642) (by decide +kernel)
theorem wj_c1 : Cond.methodLink "java/lang/String" 335 yJc ∈ lw_tbl := wB_mem (p := 643) (by decide +kernel)
theorem wj_c2 : Cond.instanceMethod yJc ∈ lw_tbl := wB_mem (p := 644) (by decide +kernel)
theorem wj_c3 : Cond.selects "java/lang/String" yJc yJc ∈ lw_tbl := wB_mem (p := 645) (by decide +kernel)
theorem wj_c4 : Cond.code yJc prog_15_method_152_code 1 (some .byte) ∈ lw_tbl := wB_mem (p := 646) (by decide +kernel)
theorem wj_f1 : Cond.fieldLink "java/lang/String" 38 "java/lang/String" "COMPACT_STRINGS" "Z" ∈ lw_tbl := wB_mem (p := 647) (by decide +kernel)
theorem wj_a2 : Cond.instanceMethod yJa ∈ lw_tbl := wB_mem (p := 650) (by decide +kernel)
theorem wj_a3 : Cond.selects "java/lang/String" yJa yJa ∈ lw_tbl := wB_mem (p := 651) (by decide +kernel)
theorem wj_a4 : Cond.code yJa prog_15_method_56_code 2 (some .char) ∈ lw_tbl := wB_mem (p := 652) (by decide +kernel)
theorem wj_i1 : Cond.methodLink "java/lang/String" 492 yJi ∈ lw_tbl := wB_mem (p := 653) (by decide +kernel)
theorem wj_i2 : Cond.instanceMethod yJi ∈ lw_tbl := wB_mem (p := 654) (by decide +kernel)
theorem wj_i3 : Cond.selects "java/lang/String" yJi yJi ∈ lw_tbl := wB_mem (p := 655) (by decide +kernel)
theorem wj_i4 : Cond.code yJi prog_15_method_154_code 1 (some .boolean) ∈ lw_tbl := wB_mem (p := 656) (by decide +kernel)
theorem wj_h1 : Cond.methodLink "java/lang/String" 495 yJh ∈ lw_tbl := wB_mem (p := 657) (by decide +kernel)
theorem wj_h2 : Cond.static yJh ∈ lw_tbl := wB_mem (p := 658) (by decide +kernel)
theorem wj_h4 : Cond.code yJh prog_16_method_2_code 2 (some .char) ∈ lw_tbl := wB_mem (p := 659) (by decide +kernel)
theorem wj_k1 : Cond.methodLink "java/lang/StringLatin1" 9 yJk ∈ lw_tbl := wB_mem (p := 660) (by decide +kernel)
theorem wj_k2 : Cond.static yJk ∈ lw_tbl := wB_mem (p := 661) (by decide +kernel)
theorem wj_k4 : Cond.code yJk prog_15_method_155_code 2 none ∈ lw_tbl := wB_mem (p := 662) (by decide +kernel)
theorem wj_f2 : Cond.fieldLink "java/lang/String" 1053 "jdk/internal/util/Preconditions" "SIOOBE_FORMATTER" "Ljava/util/function/BiFunction;" ∈ lw_tbl := wB_mem (p := 663) (by decide +kernel)
theorem wj_p1 : Cond.methodLink "java/lang/String" 1059 yJp ∈ lw_tbl := wB_mem (p := 665) (by decide +kernel)
theorem wj_p2 : Cond.static yJp ∈ lw_tbl := wB_mem (p := 666) (by decide +kernel)
theorem wj_p4 : Cond.code yJp prog_19_method_11_code 3 (some .int) ∈ lw_tbl := wB_mem (p := 667) (by decide +kernel)
theorem wj_fv : Cond.fieldLink "java/lang/String" 9 "java/lang/String" "value" "[B" ∈ lw_tbl := wB_mem (p := 1082) (by decide +kernel)
theorem wj_fc : Cond.fieldLink "java/lang/String" 15 "java/lang/String" "coder" "B" ∈ lw_tbl := wB_mem (p := 1083) (by decide +kernel)
theorem dp_0 : decode prog_19_method_11_code 0 = .ok (.iload_n 0, 1) := by decide +kernel
theorem dp_1 : decode prog_19_method_11_code 1 = .ok (.ifCond .lt 8, 3) := by decide +kernel
theorem dp_4 : decode prog_19_method_11_code 4 = .ok (.iload_n 0, 1) := by decide +kernel
theorem dp_5 : decode prog_19_method_11_code 5 = .ok (.iload_n 1, 1) := by decide +kernel
theorem dp_6 : decode prog_19_method_11_code 6 = .ok (.if_icmp .lt 10, 3) := by decide +kernel
theorem dp_16 : decode prog_19_method_11_code 16 = .ok (.iload_n 0, 1) := by decide +kernel
theorem dp_17 : decode prog_19_method_11_code 17 = .ok (.ireturn, 1) := by decide +kernel
theorem dk_0 : decode prog_15_method_155_code 0 = .ok (.iload_n 0, 1) := by decide +kernel
theorem dk_1 : decode prog_15_method_155_code 1 = .ok (.iload_n 1, 1) := by decide +kernel
theorem dk_2 : decode prog_15_method_155_code 2 = .ok (.getstatic 1053, 3) := by decide +kernel
theorem dk_5 : decode prog_15_method_155_code 5 = .ok (.invokestatic 1059, 3) := by decide +kernel
theorem dk_8 : decode prog_15_method_155_code 8 = .ok (.pop, 1) := by decide +kernel
theorem dk_9 : decode prog_15_method_155_code 9 = .ok (.return_, 1) := by decide +kernel
theorem dh_0 : decode prog_16_method_2_code 0 = .ok (.iload_n 1, 1) := by decide +kernel
theorem dh_1 : decode prog_16_method_2_code 1 = .ok (.aload_n 0, 1) := by decide +kernel
theorem dh_2 : decode prog_16_method_2_code 2 = .ok (.arraylength, 1) := by decide +kernel
theorem dh_3 : decode prog_16_method_2_code 3 = .ok (.invokestatic 9, 3) := by decide +kernel
theorem dh_6 : decode prog_16_method_2_code 6 = .ok (.aload_n 0, 1) := by decide +kernel
theorem dh_7 : decode prog_16_method_2_code 7 = .ok (.iload_n 1, 1) := by decide +kernel
theorem dh_8 : decode prog_16_method_2_code 8 = .ok (.baload, 1) := by decide +kernel
theorem dh_9 : decode prog_16_method_2_code 9 = .ok (.sipush 255, 3) := by decide +kernel
theorem dh_12 : decode prog_16_method_2_code 12 = .ok (.iand, 1) := by decide +kernel
theorem dh_13 : decode prog_16_method_2_code 13 = .ok (.i2c, 1) := by decide +kernel
theorem dh_14 : decode prog_16_method_2_code 14 = .ok (.ireturn, 1) := by decide +kernel
theorem di_0 : decode prog_15_method_154_code 0 = .ok (.getstatic 38, 3) := by decide +kernel
theorem di_3 : decode prog_15_method_154_code 3 = .ok (.ifCond .eq 14, 3) := by decide +kernel
theorem di_6 : decode prog_15_method_154_code 6 = .ok (.aload_n 0, 1) := by decide +kernel
theorem di_7 : decode prog_15_method_154_code 7 = .ok (.getfield 15, 3) := by decide +kernel
theorem di_10 : decode prog_15_method_154_code 10 = .ok (.ifCond .ne 7, 3) := by decide +kernel
theorem di_13 : decode prog_15_method_154_code 13 = .ok (.iconst 1, 1) := by decide +kernel
theorem di_14 : decode prog_15_method_154_code 14 = .ok (.goto 4, 3) := by decide +kernel
theorem di_18 : decode prog_15_method_154_code 18 = .ok (.ireturn, 1) := by decide +kernel
theorem dc_0 : decode prog_15_method_152_code 0 = .ok (.getstatic 38, 3) := by decide +kernel
theorem dc_3 : decode prog_15_method_152_code 3 = .ok (.ifCond .eq 10, 3) := by decide +kernel
theorem dc_6 : decode prog_15_method_152_code 6 = .ok (.aload_n 0, 1) := by decide +kernel
theorem dc_7 : decode prog_15_method_152_code 7 = .ok (.getfield 15, 3) := by decide +kernel
theorem dc_10 : decode prog_15_method_152_code 10 = .ok (.goto 4, 3) := by decide +kernel
theorem dc_14 : decode prog_15_method_152_code 14 = .ok (.ireturn, 1) := by decide +kernel
theorem dl_0 : decode prog_15_method_54_code 0 = .ok (.aload_n 0, 1) := by decide +kernel
theorem dl_1 : decode prog_15_method_54_code 1 = .ok (.getfield 9, 3) := by decide +kernel
theorem dl_4 : decode prog_15_method_54_code 4 = .ok (.arraylength, 1) := by decide +kernel
theorem dl_5 : decode prog_15_method_54_code 5 = .ok (.aload_n 0, 1) := by decide +kernel
theorem dl_6 : decode prog_15_method_54_code 6 = .ok (.invokevirtual 335, 3) := by decide +kernel
theorem dl_9 : decode prog_15_method_54_code 9 = .ok (.ishr, 1) := by decide +kernel
theorem dl_10 : decode prog_15_method_54_code 10 = .ok (.ireturn, 1) := by decide +kernel
theorem da_0 : decode prog_15_method_56_code 0 = .ok (.aload_n 0, 1) := by decide +kernel
theorem da_1 : decode prog_15_method_56_code 1 = .ok (.invokevirtual 492, 3) := by decide +kernel
theorem da_4 : decode prog_15_method_56_code 4 = .ok (.ifCond .eq 12, 3) := by decide +kernel
theorem da_7 : decode prog_15_method_56_code 7 = .ok (.aload_n 0, 1) := by decide +kernel
theorem da_8 : decode prog_15_method_56_code 8 = .ok (.getfield 9, 3) := by decide +kernel
theorem da_11 : decode prog_15_method_56_code 11 = .ok (.iload_n 1, 1) := by decide +kernel
theorem da_12 : decode prog_15_method_56_code 12 = .ok (.invokestatic 495, 3) := by decide +kernel
theorem da_15 : decode prog_15_method_56_code 15 = .ok (.ireturn, 1) := by decide +kernel
/-- what a text constant's bytes are -/
theorem ts_all : ∀ i, i < nS → bytS.getD i [] = TXT i ∧ lenS.getD i 0 = (TXT i).length ∧ (TXT i).length ≤ 5 := by decide +kernel
theorem ts_chr : ∀ i, i < nS → ∀ j, j < 5 → ((((TXT i).getD j 0 &&& 255).toUInt32 % 65536).toInt32) = (TXT i).getD j 0 ∧ narrow .char (.int ((TXT i).getD j 0)) = .int ((TXT i).getD j 0) := by decide +kernel
theorem ts_len : ∀ n, n < 6 → Int32.ofNat n >>> ((0 : Int32) &&& 31) = Int32.ofNat n := by decide +kernel
def rmJ (k : Nat) : Room := { frames := k, cells := 0, slots := 0, locals := 30 * k }
def PcJ (E : SE) (G : Heap) (L : Nat) (xs : Nat → Int32) (vs : List Value) : Array Value → State → Prop := fun v U => v = vs.toArray ∧ Kf E G L xs U ∧ va_S (fun q => eS E ≤ q) G U.heap []
def PcH (E : SE) (G : Heap) (L : Nat) (xs : Nat → Int32) (b N : Nat) (f : Nat → Value) (vs : List Value) : Array Value → State → Prop := fun v U => v = vs.toArray ∧ Kf E G L xs U ∧ va_S (fun q => eS E ≤ q) G U.heap [] ∧ va_T .byte b N f (fun q => eS E ≤ q) U U.heap
def QcJ (r : Option Value) : Array Value → State → Outcome → State → Prop := fun _ s oc t => oc = .returned r ∧ t.heap = s.heap
section SMJ
variable {p : Program} {l : Launch} {e : Env} {R : Room} {s : State} {m : MethodId} {args : Array Value} {below : List Frame} {meth : Method} {c : Code} {locs : List Loc} {cells slots : Nat} {Q : State → Prop}
variable {E : SE} {G : Heap} {L : Nat} {xs : Nat → Int32} {Hr : Heap} {nL pc : Nat} {cc : ByteArray} {lr : Array Slot} {vs : List Value}
theorem PcJ.blind : FrameBlind (PcJ E G L xs vs) := fun a U g mk h => ⟨h.1, h.2.1.warm (s := U) (U := U.calling g mk a) (State.WarmedH.refl U), h.2.2⟩
theorem PcH.blind {b N : Nat} {f : Nat → Value} : FrameBlind (PcH E G L xs b N f vs) := fun a U g mk h => ⟨h.1, h.2.1.warm (s := U) (U := U.calling g mk a) (State.WarmedH.refl U), h.2.2.1, va_T.moved (u := U) (U := U.calling g mk a) (State.WarmedH.refl U).alike h.2.2.2⟩
theorem jk_fin {r : Option Value} {A : Array Value} {stk rest : List Value} (hrun : va_Run p l e R s m args below meth c Hr locs cells slots 0 0 (F0 m pc lr stk) rest (QcJ r A) (fun q => eS E ≤ q)) (hlo : okL E locs)
    (kk : ∀ locs' : List Loc, okL E locs' → W p l e R s m args below meth c Hr locs' cells slots Q (F0 m (pc + 3) lr (r.toList ++ rest))) : W p l e R s m args below meth c Hr locs cells slots Q (F0 m pc lr stk) := by
  intro T hT Z
  obtain ⟨v, st₀, t, T', Lc, h0, Z', hL, e1, e2, ⟨hv, hh⟩, stp⟩ := hrun T hT Z
  have hv : v = r := by injection hv
  subst hv
  obtain ⟨t2, a1, b1⟩ := kk (locs ++ Lc) (fun q hq => by
    rcases List.mem_append.mp hq with h | h
    · exact hlo q h
    · exact hL q h) T' (by rw [e1, hh, h0]) Z'
  exact ⟨t2, stp t2 a1, b1⟩
theorem jk_static {y : MethodName} {own : String} {idx maxL k : Nat} {bytes : ByteArray} {ret : Option FieldType} {Pc : Array Value → State → Prop} {r : Option Value} {rest : List Value} (hF : CallFix p m c cc nL s args [] own) (hM : Met l y [Cond.code y bytes maxL ret] (rmJ k) Pc (QcJ r) 0 0 (fun q => eS E ≤ q)) (hK : Kf E G L xs s) (hpre : PreS s Hr Pc vs)
    (hl : Cond.methodLink own idx y ∈ lw_tbl) (hst : Cond.static y ∈ lw_tbl) (hin : Cond.initialized y.cls ∈ lw_tbl) (hcd : Cond.code y bytes maxL ret ∈ lw_tbl) (hro : k + 1 ≤ R.frames ∧ 8 + (maxL + 11) + 30 * k ≤ R.locals) (hy : y.cls ≠ "java/lang/invoke/MethodHandle" ∧ y.cls ≠ "java/lang/invoke/VarHandle") (hpl : ∃ np, (parseMethodDescriptor y.desc).map (fun d => d.parameters.length) = some np ∧ vs.length = np)
    (hsz : lr.size = nL) (h8 : (rest.map fun v => v.category).sum ≤ 8) (hcs : cells ≤ R.cells ∧ slots ≤ R.slots) (hd : decode cc pc = .ok (.invokestatic idx, 3)) (hlo : okL E locs)
    (kk : ∀ locs' : List Loc, okL E locs' → W p l e R s m args below meth c Hr locs' cells slots Q (F0 m (pc + 3) lr (r.toList ++ rest))) : W p l e R s m args below meth c Hr locs cells slots Q (F0 m pc lr (vs.reverse ++ rest)) := by
  have hlen : ∀ sig, parseMethodDescriptor y.desc = some sig → vs.length = sig.parameters.length := fun sig h => by
    obtain ⟨np, hp1, hp2⟩ := hpl
    rw [h] at hp1
    exact hp2.trans (Option.some.inj hp1).symm
  have hwsb : ∀ w ∈ [Cond.code y bytes maxL ret], ∀ (a' : Array Value) (U : State), s.WarmedH U.vm → w.before a' U = true := fun w hw a' U hW => by
    rw [List.mem_singleton.mp hw]
    exact (hK.warm hW).1 _ hcd rfl a'
  exact jk_fin (va_runS (As := vs) (rest := rest) hF hM ⟨⟨rfl, rfl, hro.1, hro.2, hwsb, List.mem_singleton.mpr rfl, hK.1 _ hcd rfl args, hK.1 _ hin rfl args, hy, hlen, hK.1 _ hl rfl args⟩, hK.1 _ hst rfl args⟩ hpre rfl rfl hsz rfl (lv_room h8) hd hcs) hlo kk
theorem jk_virt {y : MethodName} {own C : String} {idx maxL k : Nat} {bytes : ByteArray} {ret : Option FieldType} {Pc : Array Value → State → Prop} {r : Option Value} {rest : List Value} {b : Nat} (hF : CallFix p m c cc nL s args [] own) (hM : Met l y [Cond.code y bytes maxL ret] (rmJ k) Pc (QcJ r) 0 0 (fun q => eS E ≤ q)) (hK : Kf E G L xs s) (hpre : PreV s Hr C b Pc vs)
    (hl : Cond.methodLink own idx y ∈ lw_tbl) (hst : Cond.instanceMethod y ∈ lw_tbl) (hse : Cond.selects C y y ∈ lw_tbl) (hin : Cond.initialized y.cls ∈ lw_tbl) (hcd : Cond.code y bytes maxL ret ∈ lw_tbl) (hro : k + 1 ≤ R.frames ∧ 8 + (maxL + 11) + 30 * k ≤ R.locals) (hy : y.cls ≠ "java/lang/invoke/MethodHandle" ∧ y.cls ≠ "java/lang/invoke/VarHandle") (hpl : ∃ np, (parseMethodDescriptor y.desc).map (fun d => d.parameters.length) = some np ∧ vs.length = np)
    (hsz : lr.size = nL) (h8 : (rest.map fun v => v.category).sum ≤ 8) (hcs : cells ≤ R.cells ∧ slots ≤ R.slots) (hd : decode cc pc = .ok (.invokevirtual idx, 3)) (hlo : okL E locs)
    (kk : ∀ locs' : List Loc, okL E locs' → W p l e R s m args below meth c Hr locs' cells slots Q (F0 m (pc + 3) lr (r.toList ++ rest))) : W p l e R s m args below meth c Hr locs cells slots Q (F0 m pc lr (vs.reverse ++ .ref b :: rest)) := by
  have hlen : ∀ sig, parseMethodDescriptor y.desc = some sig → vs.length = sig.parameters.length := fun sig h => by
    obtain ⟨np, hp1, hp2⟩ := hpl
    rw [h] at hp1
    exact hp2.trans (Option.some.inj hp1).symm
  have hwsb : ∀ w ∈ [Cond.code y bytes maxL ret], ∀ (a' : Array Value) (U : State), s.WarmedH U.vm → w.before a' U = true := fun w hw a' U hW => by
    rw [List.mem_singleton.mp hw]
    exact (hK.warm hW).1 _ hcd rfl a'
  exact jk_fin (va_runV (As := vs) (rest := rest) (n := vs.length) hF hM ⟨⟨rfl, rfl, hro.1, hro.2, hwsb, List.mem_singleton.mpr rfl, hK.1 _ hcd rfl args, hK.1 _ hin rfl args, hy, hlen, hK.1 _ hl rfl args⟩, hK.1 _ hst rfl args, hK.1 _ hse rfl args⟩ hpre rfl rfl hsz rfl (lv_room h8) hd hcs) hlo kk
/-- Preconditions.checkIndex, inside -/
theorem mt_p {i n : Int32} {f : Value} (hf : f = .null ∨ ∃ t, f = .ref t) (h0 : ¬ i < 0) (h1 : i < n) : Met l yJp [Cond.code yJp prog_19_method_11_code 3 (some .int)] (rmJ 0) (PcJ E G L xs [.int i, .int n, f]) (QcJ (some (.int i))) 0 0 (fun q => eS E ≤ q) := by
  refine Met.ofW (cc := prog_19_method_11_code) (maxL := 3) (ret := some .int) (by decide +kernel) rfl ?_
  intro p e s m args below meth c s₁ B hml hv
  obtain ⟨rfl, hK, hS⟩ := hv
  have hlocks := B.notSynchronized
  have e0 : (lg_sl [.int i, .int n, f] ++ List.replicate (3 - (lg_sl [.int i, .int n, f]).length) Slot.unset).toArray = #[.val (.int i), .val (.int n), .val f] := by rcases hf with rfl | ⟨t, rfl⟩ <;> rfl
  rw [lg_entry_eq, e0]
  refine lv_iload_n B.exec B.bytes dp_0 rfl rfl ?_
  refine lv_if_lt B.exec B.bytes (tgt := 9) dp_1 rfl (fun z => absurd z h0) (fun _ => ?_)
  refine lv_iload_n B.exec B.bytes dp_4 rfl rfl ?_
  refine lv_iload_n B.exec B.bytes dp_5 rfl rfl ?_
  refine lv_icmp_lt B.exec B.bytes (tgt := 16) dp_6 rfl (fun _ => ?_) (fun z => absurd h1 z)
  refine lv_iload_n B.exec B.bytes dp_16 rfl rfl ?_
  exact W.zret B.exec B.bytes B.returns rfl (fun t ht _ => ⟨rfl, ht⟩) (fun q hq => by cases hq) dp_17
/-- String.checkIndex, inside -/
theorem mt_k {i n : Int32} (h0 : ¬ i < 0) (h1 : i < n) : Met l yJk [Cond.code yJk prog_15_method_155_code 2 none] (rmJ 1) (PcJ E G L xs [.int i, .int n]) (QcJ none) 0 0 (fun q => eS E ≤ q) := by
  refine Met.ofW (cc := prog_15_method_155_code) (maxL := 2) (ret := none) (by decide +kernel) rfl ?_
  intro p e s m args below meth c s₁ B hml hv
  obtain ⟨rfl, hK, hS⟩ := hv
  have hlocks := B.notSynchronized
  have hown : s.vm.findClass "java/lang/String" = some m.cls := findClass_of_methodNamed B.named
  have hS0 : va_S (fun q => eS E ≤ q) s.heap s.heap [] := va_S.rf
  obtain ⟨adV, -, -, hZ⟩ := hK.2.2.2.2.2.2.2.2
  have hZ := hZ.kept hS.2.1
  have e0 : (lg_sl [.int i, .int n] ++ List.replicate (2 - (lg_sl [.int i, .int n]).length) Slot.unset).toArray = #[.val (.int i), .val (.int n)] := rfl
  rw [lg_entry_eq, e0]
  refine lv_iload_n B.exec B.bytes dk_0 rfl rfl ?_
  refine lv_iload_n B.exec B.bytes dk_1 rfl rfl ?_
  have fin : ∀ f : Value, (f = .null ∨ ∃ t, f = .ref t) → W p l e (headSpec [Cond.code yJk prog_15_method_155_code 2 none] (rmJ 1)).room s m #[.int i, .int n] below meth c s.heap [] 0 0 (MQ below (QcJ none) #[.int i, .int n] s 0 0 (fun q => eS E ≤ q)) (F0 m 5 #[.val (.int i), .val (.int n)] ([.int i, .int n, f].reverse ++ [])) := by
    intro f hf
    refine jk_static (k := 0) ⟨B.exec, B.bytes, hml, hown, fun w hw => by cases hw⟩ (mt_p hf h0 h1) hK ⟨PcJ.blind, fun U hU hW => ⟨rfl, hK.warm hW, by rw [hU]; exact hS⟩⟩ wj_p1 wj_p2 wj_iP wj_p4 ⟨Nat.le_refl _, by decide⟩ ⟨by decide, by decide⟩ ⟨3, by decide +kernel, rfl⟩ rfl (by decide) ⟨Nat.le_refl _, Nat.le_refl _⟩ dk_5 (fun q hq => by cases hq) (fun locs' hlo => ?_)
    refine lv_pop B.exec B.bytes dk_8 rfl ?_
    exact W.vret B.exec B.bytes B.returns (fun t ht _ => ⟨rfl, ht⟩) hlo dk_9
  rcases hZ with hZ | ⟨t, hZ⟩
  · exact va_gets B.exec B.bytes hZ hS0 hown (hK.1 _ wj_f2 rfl _) (fun _ h => h) dk_2 (fin _ (Or.inl rfl))
  · exact va_gets B.exec B.bytes hZ hS0 hown (hK.1 _ wj_f2 rfl _) (fun _ h => h) dk_2 (fin _ (Or.inr ⟨t, rfl⟩))
/-- StringLatin1.charAt, inside -/
theorem mt_h {b N : Nat} {f : Nat → Value} {y x z : Int32} (hN : N < 2 ^ 31) (hin : vp_in y N) (hx : f y.toNatClampNeg = .int x) (hz : (((x &&& 255).toUInt32 % 65536).toInt32) = z) (hn : narrow .char (.int z) = .int z) : Met l yJh [Cond.code yJh prog_16_method_2_code 2 (some .char)] (rmJ 2) (PcH E G L xs b N f [.ref b, .int y]) (QcJ (some (.int z))) 0 0 (fun q => eS E ≤ q) := by
  refine Met.ofW (cc := prog_16_method_2_code) (maxL := 2) (ret := some .char) (by decide +kernel) rfl ?_
  intro p e s m args below meth c s₁ B hml hv
  obtain ⟨rfl, hK, hS, hT⟩ := hv
  have hlocks := B.notSynchronized
  have hown : s.vm.findClass "java/lang/StringLatin1" = some m.cls := findClass_of_methodNamed B.named
  have h0 : ¬ y < 0 := fun q => hin (Or.inl q)
  have h1 : y < Int32.ofNat N := by
    obtain ⟨k, hk, rfl⟩ := nI_of h0
    have hlt : (nI k).toNatClampNeg < N := Nat.not_le.mp (fun q => hin (Or.inr q))
    rw [nI_clamp hk] at hlt
    exact nI_lt hlt hN
  have e0 : (lg_sl [.ref b, .int y] ++ List.replicate (2 - (lg_sl [.ref b, .int y]).length) Slot.unset).toArray = #[.val (.ref b), .val (.int y)] := rfl
  rw [lg_entry_eq, e0]
  refine lv_iload_n B.exec B.bytes dh_0 rfl rfl ?_
  refine lv_aload_n B.exec B.bytes dh_1 rfl rfl ?_
  refine va_tlen B.exec B.bytes hT va_S.rf rfl dh_2 ?_
  refine jk_static (vs := [.int y, .int (Int32.ofNat N)]) (rest := []) (k := 1) ⟨B.exec, B.bytes, hml, hown, fun w hw => by cases hw⟩ (mt_k h0 h1) hK ⟨PcJ.blind, fun U hU hW => ⟨rfl, hK.warm hW, by rw [hU]; exact hS⟩⟩ wj_k1 wj_k2 wj_iS wj_k4 ⟨Nat.le_refl _, by decide⟩ ⟨by decide, by decide⟩ ⟨2, by decide +kernel, rfl⟩ rfl (by decide) ⟨Nat.le_refl _, Nat.le_refl _⟩ dh_3 (fun q hq => by cases hq) (fun locs' hlo => ?_)
  have hS1 : va_S (fun q => eS E ≤ q) s.heap s.heap locs' := ⟨Nat.le_refl _, fun _ _ _ => rfl, hlo⟩
  refine lv_aload_n B.exec B.bytes dh_6 rfl rfl ?_
  refine lv_iload_n B.exec B.bytes dh_7 rfl rfl ?_
  refine va_tb B.exec B.bytes hT hS1 hin hx dh_8 ?_
  refine lv_sipush B.exec B.bytes (v := 255) dh_9 (by decide) ?_
  refine lv_iand B.exec B.bytes dh_12 ?_
  refine lv_i2c B.exec B.bytes dh_13 hz ?_
  exact W.zret B.exec B.bytes B.returns hn (fun t ht _ => ⟨rfl, ht⟩) hlo dh_14
/-- isLatin1 of a text constant -/
theorem mt_i {i : Nat} (hi : i < nS) : Met l yJi [Cond.code yJi prog_15_method_154_code 1 (some .boolean)] (rmJ 0) (PcJ E G L xs [.ref (eK E i)]) (QcJ (some (.int 1))) 0 0 (fun q => eS E ≤ q) := by
  refine Met.ofW (cc := prog_15_method_154_code) (maxL := 1) (ret := some .boolean) (by decide +kernel) rfl ?_
  intro p e s m args below meth c s₁ B hml hv
  obtain ⟨rfl, hK, hS⟩ := hv
  have hlocks := B.notSynchronized
  have hown : s.vm.findClass "java/lang/String" = some m.cls := findClass_of_methodNamed B.named
  obtain ⟨adV, hV, hZ, -⟩ := hK.2.2.2.2.2.2.2.2
  have hZ := hZ.kept hS.2.1
  have hV := hV.kept hS.2.1
  have e0 : (lg_sl [.ref (eK E i)] ++ List.replicate (1 - (lg_sl [.ref (eK E i)]).length) Slot.unset).toArray = #[.val (.ref (eK E i))] := rfl
  rw [lg_entry_eq, e0]
  refine va_gets B.exec B.bytes hZ va_S.rf hown (hK.1 _ wj_f1 rfl _) (fun _ h => h) di_0 ?_
  refine lv_if_eq B.exec B.bytes (tgt := 17) di_3 rfl (fun z => absurd z (by decide)) (fun _ => ?_)
  refine lv_aload_n B.exec B.bytes di_6 rfl rfl ?_
  refine vk_getf B.exec B.bytes (hV.1 i hi).2.1 va_S.rf hown (hK.1 _ wj_fc rfl _) (fun _ h => h) di_7 ?_
  refine lv_if_ne B.exec B.bytes (tgt := 17) di_10 rfl (fun z => absurd rfl z) (fun _ => ?_)
  refine lv_iconst B.exec B.bytes (v := 1) di_13 (by decide) ?_
  refine lv_goto B.exec B.bytes (tgt := 18) di_14 rfl ?_
  exact W.zret B.exec B.bytes B.returns (by decide) (fun t ht _ => ⟨rfl, ht⟩) (fun q hq => by cases hq) di_18
/-- coder of a text constant -/
theorem mt_c {i : Nat} (hi : i < nS) : Met l yJc [Cond.code yJc prog_15_method_152_code 1 (some .byte)] (rmJ 0) (PcJ E G L xs [.ref (eK E i)]) (QcJ (some (.int 0))) 0 0 (fun q => eS E ≤ q) := by
  refine Met.ofW (cc := prog_15_method_152_code) (maxL := 1) (ret := some .byte) (by decide +kernel) rfl ?_
  intro p e s m args below meth c s₁ B hml hv
  obtain ⟨rfl, hK, hS⟩ := hv
  have hlocks := B.notSynchronized
  have hown : s.vm.findClass "java/lang/String" = some m.cls := findClass_of_methodNamed B.named
  obtain ⟨adV, hV, hZ, -⟩ := hK.2.2.2.2.2.2.2.2
  have hZ := hZ.kept hS.2.1
  have hV := hV.kept hS.2.1
  have e0 : (lg_sl [.ref (eK E i)] ++ List.replicate (1 - (lg_sl [.ref (eK E i)]).length) Slot.unset).toArray = #[.val (.ref (eK E i))] := rfl
  rw [lg_entry_eq, e0]
  refine va_gets B.exec B.bytes hZ va_S.rf hown (hK.1 _ wj_f1 rfl _) (fun _ h => h) dc_0 ?_
  refine lv_if_eq B.exec B.bytes (tgt := 13) dc_3 rfl (fun z => absurd z (by decide)) (fun _ => ?_)
  refine lv_aload_n B.exec B.bytes dc_6 rfl rfl ?_
  refine vk_getf B.exec B.bytes (hV.1 i hi).2.1 va_S.rf hown (hK.1 _ wj_fc rfl _) (fun _ h => h) dc_7 ?_
  refine lv_goto B.exec B.bytes (tgt := 14) dc_10 rfl ?_
  exact W.zret B.exec B.bytes B.returns (by decide) (fun t ht _ => ⟨rfl, ht⟩) (fun q hq => by cases hq) dc_14
/-- the cell of a text constant -/
theorem vk_cell {i : Nat} {adV : Nat → Nat} {H1 : Heap} (hi : i < nS) (h : vk_S nS lenS bytS (eK E) adV (fun q => eS E ≤ q) s H1) : ∃ cell : Cell, H1[eK E i]? = some cell ∧ cell.vm.isStatics = false ∧ s.vm.findClass "java/lang/String" = some cell.cls := by
  obtain ⟨cell, h1, h2, h3, -⟩ := (h.1 i hi).1
  exact ⟨cell, h1, h2, h3⟩
/-- length of a text constant -/
theorem mt_l {i : Nat} (hi : i < nS) : Met l yJl [Cond.code yJl prog_15_method_54_code 1 (some .int)] (rmJ 1) (PcJ E G L xs [.ref (eK E i)]) (QcJ (some (.int (Int32.ofNat (TXT i).length)))) 0 0 (fun q => eS E ≤ q) := by
  refine Met.ofW (cc := prog_15_method_54_code) (maxL := 1) (ret := some .int) (by decide +kernel) rfl ?_
  intro p e s m args below meth c s₁ B hml hv
  obtain ⟨rfl, hK, hS⟩ := hv
  have hlocks := B.notSynchronized
  have hown : s.vm.findClass "java/lang/String" = some m.cls := findClass_of_methodNamed B.named
  obtain ⟨adV, hV, -, -⟩ := hK.2.2.2.2.2.2.2.2
  have hV := hV.kept hS.2.1
  obtain ⟨t1, t2, t3⟩ := ts_all i hi
  have e0 : (lg_sl [.ref (eK E i)] ++ List.replicate (1 - (lg_sl [.ref (eK E i)]).length) Slot.unset).toArray = #[.val (.ref (eK E i))] := rfl
  rw [lg_entry_eq, e0]
  refine lv_aload_n B.exec B.bytes dl_0 rfl rfl ?_
  refine vk_getf B.exec B.bytes (hV.1 i hi).2.2.1 va_S.rf hown (hK.1 _ wj_fv rfl _) (fun _ h => h) dl_1 ?_
  refine va_tlen B.exec B.bytes (hV.1 i hi).2.2.2 va_S.rf rfl dl_4 ?_
  refine lv_aload_n B.exec B.bytes dl_5 rfl rfl ?_
  refine jk_virt (vs := []) (k := 0) (C := "java/lang/String") ⟨B.exec, B.bytes, hml, hown, fun w hw => by cases hw⟩ (mt_c hi) hK ⟨PcJ.blind, vk_cell hi hV, fun U hU hW => ⟨rfl, hK.warm hW, by rw [hU]; exact hS⟩⟩ wj_c1 wj_c2 wj_c3 wj_iS wj_c4 ⟨Nat.le_refl _, by decide⟩ ⟨by decide, by decide⟩ ⟨0, by decide +kernel, rfl⟩ rfl (by show (1 + 0 : Nat) ≤ 8; decide) ⟨Nat.le_refl _, Nat.le_refl _⟩ dl_6 (fun q hq => by cases hq) (fun locs' hlo => ?_)
  refine lv_ishr B.exec B.bytes dl_9 ?_
  rw [t2, ts_len _ (by omega)]
  exact W.zret B.exec B.bytes B.returns rfl (fun t ht _ => ⟨rfl, ht⟩) hlo dl_10
/-- charAt of a text constant -/
theorem mt_a {i : Nat} {y : Int32} (hi : i < nS) (hin : vp_in y (TXT i).length) : Met l yJa [Cond.code yJa prog_15_method_56_code 2 (some .char)] (rmJ 3) (PcJ E G L xs [.ref (eK E i), .int y]) (QcJ (some (.int ((TXT i).getD y.toNatClampNeg 0)))) 0 0 (fun q => eS E ≤ q) := by
  refine Met.ofW (cc := prog_15_method_56_code) (maxL := 2) (ret := some .char) (by decide +kernel) rfl ?_
  intro p e s m args below meth c s₁ B hml hv
  obtain ⟨rfl, hK, hS⟩ := hv
  have hlocks := B.notSynchronized
  have hown : s.vm.findClass "java/lang/String" = some m.cls := findClass_of_methodNamed B.named
  obtain ⟨adV, hV, -, -⟩ := hK.2.2.2.2.2.2.2.2
  have hV := hV.kept hS.2.1
  obtain ⟨t1, t2, t3⟩ := ts_all i hi
  have hlt : y.toNatClampNeg < (TXT i).length := Nat.not_le.mp (fun q => hin (Or.inr q))
  obtain ⟨c1, c2⟩ := ts_chr i hi y.toNatClampNeg (by omega)
  have hT := (hV.1 i hi).2.2.2
  rw [t2] at hT
  have e0 : (lg_sl [.ref (eK E i), .int y] ++ List.replicate (2 - (lg_sl [.ref (eK E i), .int y]).length) Slot.unset).toArray = #[.val (.ref (eK E i)), .val (.int y)] := rfl
  rw [lg_entry_eq, e0]
  refine lv_aload_n B.exec B.bytes da_0 rfl rfl ?_
  refine jk_virt (vs := []) (rest := []) (k := 0) (C := "java/lang/String") ⟨B.exec, B.bytes, hml, hown, fun w hw => by cases hw⟩ (mt_i hi) hK ⟨PcJ.blind, vk_cell hi hV, fun U hU hW => ⟨rfl, hK.warm hW, by rw [hU]; exact hS⟩⟩ wj_i1 wj_i2 wj_i3 wj_iS wj_i4 ⟨by decide, by decide⟩ ⟨by decide, by decide⟩ ⟨0, by decide +kernel, rfl⟩ rfl (by decide) ⟨Nat.le_refl _, Nat.le_refl _⟩ da_1 (fun q hq => by cases hq) (fun locs' hlo => ?_)
  have hS1 : va_S (fun q => eS E ≤ q) s.heap s.heap locs' := ⟨Nat.le_refl _, fun _ _ _ => rfl, hlo⟩
  refine lv_if_eq B.exec B.bytes (tgt := 16) da_4 rfl (fun z => absurd z (by decide)) (fun _ => ?_)
  refine lv_aload_n B.exec B.bytes da_7 rfl rfl ?_
  refine vk_getf B.exec B.bytes (hV.1 i hi).2.2.1 hS1 hown (hK.1 _ wj_fv rfl _) (fun _ h => h) da_8 ?_
  refine lv_iload_n B.exec B.bytes da_11 rfl rfl ?_
  refine jk_static (vs := [.ref (adV i), .int y]) (rest := []) (k := 2) ⟨B.exec, B.bytes, hml, hown, fun w hw => by cases hw⟩ (mt_h (b := adV i) (f := fun j => Value.int ((bytS.getD i []).getD j 0)) (x := (TXT i).getD y.toNatClampNeg 0) (by omega) hin (by show Value.int ((bytS.getD i []).getD y.toNatClampNeg 0) = _; rw [t1]) c1 c2) hK ⟨PcH.blind, fun U hU hW => ⟨rfl, hK.warm hW, by rw [hU]; exact hS, by rw [hU]; exact va_T.moved hW.alike hT⟩⟩ wj_h1 wj_h2 wj_iL wj_h4 ⟨Nat.le_refl _, by decide⟩ ⟨by decide, by decide⟩ ⟨2, by decide +kernel, rfl⟩ rfl (by decide) ⟨Nat.le_refl _, Nat.le_refl _⟩ da_12 hlo (fun locs2 hlo2 => ?_)
  exact W.zret B.exec B.bytes B.returns c2 (fun t ht _ => ⟨rfl, ht⟩) hlo2 da_15
end SMJ
section SMT
variable {p : Program} {l : Launch} {e : Env} {R : Room} {s : State} {m : MethodId} {args : Array Value} {below : List Frame} {meth : Method} {c : Code} {locs : List Loc} {cells slots : Nat} {Q : State → Prop}
variable {E : SE} {G : Heap} {L : Nat} {xs : Nat → Int32} {H : AH} {Hr : Heap} {oc nL pc : Nat} {ini : Bool} {cc : ByteArray} {lr : Array Slot}
theorem conc_K {i : Nat} (hi : i < nS) : conc E (vR (2 + i)) = .ref (eK E i) := by
  have h17 : i < 17 := hi
  have hk : K0 = 19 := by decide
  rw [conc_R E (by omega)]
  unfold ad
  rw [if_neg (by omega), if_pos (by omega), show 2 + i - 2 = i by omega]
theorem sim_S (hK : Kf E G L xs s) (hS : Sim E G L xs H Hr) : va_S (fun q => eS E ≤ q) G Hr [] := by
  have h8 : G.size = eS E := hK.2.2.2.2.2.2.2.1
  exact ⟨by rw [hS.2.1, h8]; omega, fun q h1 h2 => hS.2.2.1 q (Nat.not_le.mp h2), fun q hq => by cases hq⟩
theorem so_len {i jj : Nat} {st : List AV} (X : Cx p m c meth s oc ini nL cc) (hK : Kf E G L xs s) (hR : 8 ≤ R.frames ∧ 600 ≤ R.locals) (hS : Sim E G L xs H Hr) (hsz : lr.size = nL) (hlo : okL E locs) (hi : i < nS) (h8 : st.length ≤ 8) (hj : (oc, jj, 1054) ∈ MLL) (hd : decode cc pc = .ok (.invokevirtual jj, 3)) (hcs : cells ≤ R.cells ∧ slots ≤ R.slots)
    (kk : ∀ locs' : List Loc, okL E locs' → W p l e R s m args below meth c Hr locs' cells slots Q (F0 m (pc + 3) lr (.int (Int32.ofNat (TXT i).length) :: st.map (conc E)))) : W p l e R s m args below meth c Hr locs cells slots Q (F0 m pc lr ((vR (2 + i) :: st).map (conc E))) := by
  have hV := sim_S hK hS
  obtain ⟨adV, hVS, -, -⟩ := hK.2.2.2.2.2.2.2.2
  rw [List.map_cons, conc_K hi]
  have hl := MLL_j _ hj (by show 1000 ≤ 1054; decide)
  exact jk_virt (y := yJl) (vs := []) (rest := st.map (conc E)) (k := 1) (C := "java/lang/String") ⟨X.1, X.2.1, X.2.2.1, X.2.2.2.1, fun w hw => by cases hw⟩ (mt_l hi) hK ⟨PcJ.blind, vk_cell hi (hVS.kept hV.2.1), fun U hU hW => ⟨rfl, hK.warm hW, by rw [hU]; exact hV⟩⟩ hl wj_l2 wj_l3 wj_iS wj_l4 ⟨by omega, by omega⟩ ⟨by decide, by decide⟩ ⟨0, by decide +kernel, rfl⟩ hsz (by rw [sum_cat]; exact h8) hcs hd hlo kk
theorem so_chr {i jj : Nat} {y : Int32} {st : List AV} (X : Cx p m c meth s oc ini nL cc) (hK : Kf E G L xs s) (hR : 8 ≤ R.frames ∧ 600 ≤ R.locals) (hS : Sim E G L xs H Hr) (hsz : lr.size = nL) (hlo : okL E locs) (hi : i < nS) (hin : vp_in y (TXT i).length) (h8 : st.length ≤ 8) (hj : (oc, jj, 1055) ∈ MLL) (hd : decode cc pc = .ok (.invokevirtual jj, 3)) (hcs : cells ≤ R.cells ∧ slots ≤ R.slots)
    (kk : ∀ locs' : List Loc, okL E locs' → W p l e R s m args below meth c Hr locs' cells slots Q (F0 m (pc + 3) lr (.int ((TXT i).getD y.toNatClampNeg 0) :: st.map (conc E)))) : W p l e R s m args below meth c Hr locs cells slots Q (F0 m pc lr ((vI y :: vR (2 + i) :: st).map (conc E))) := by
  have hV := sim_S hK hS
  obtain ⟨adV, hVS, -, -⟩ := hK.2.2.2.2.2.2.2.2
  rw [List.map_cons, List.map_cons, conc_K hi, conc_I]
  have hl := MLL_j _ hj (by show 1000 ≤ 1055; decide)
  exact jk_virt (y := yJa) (vs := [.int y]) (rest := st.map (conc E)) (k := 3) (C := "java/lang/String") ⟨X.1, X.2.1, X.2.2.1, X.2.2.2.1, fun w hw => by cases hw⟩ (mt_a hi hin) hK ⟨PcJ.blind, vk_cell hi (hVS.kept hV.2.1), fun U hU hW => ⟨rfl, hK.warm hW, by rw [hU]; exact hV⟩⟩ hl wj_a2 wj_a3 wj_iS wj_a4 ⟨by omega, by omega⟩ ⟨by decide, by decide⟩ ⟨1, by decide +kernel, rfl⟩ hsz (by rw [sum_cat]; exact h8) hcs hd hlo kk
end SMT
