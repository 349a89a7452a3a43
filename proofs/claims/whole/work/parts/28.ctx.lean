set_option maxRecDepth 100000 in
theorem MC_all : AllQ (fun mm => chkL (oM mm) (mI mm) (mR mm) (lM mm) (bM mm) (MT mm).1 0 = true) 0 174 := ⟨mc_0, mc_1, mc_2, mc_3, mc_4, mc_5, mc_6, mc_7, mc_8, mc_9, mc_10, mc_11, mc_12, mc_13, mc_14, mc_15, mc_16, mc_17, mc_18, mc_19, mc_20, mc_21, mc_22, mc_23, mc_24, mc_25, mc_26, mc_27, mc_28, mc_29, mc_30, mc_31, mc_32, mc_33, mc_34, mc_35, mc_36, mc_37, mc_38, mc_39, mc_40, mc_41, mc_42, mc_43, mc_44, mc_45, mc_46, mc_47, mc_48, mc_49, mc_50, mc_51, mc_52, mc_53, mc_54, mc_55, mc_56, mc_57, mc_58, mc_59, mc_60, mc_61, mc_62, mc_63, mc_64, mc_65, mc_66, mc_67, mc_68, mc_69, mc_70, mc_71, mc_72, mc_73, mc_74, mc_75, mc_76, mc_77, mc_78, mc_79, mc_80, mc_81, mc_82, mc_83, mc_84, mc_85, mc_86, mc_87, mc_88, mc_89, mc_90, mc_91, mc_92, mc_93, mc_94, mc_95, mc_96, mc_97, mc_98, mc_99, mc_100, mc_101, mc_102, mc_103, mc_104, mc_105, mc_106, mc_107, mc_108, mc_109, mc_110, mc_111, mc_112, mc_113, mc_114, mc_115, mc_116, mc_117, mc_118, mc_119, mc_120, mc_121, mc_122, mc_123, mc_124, mc_125, mc_126, mc_127, mc_128, mc_129, mc_130, mc_131, mc_132, mc_133, mc_134, mc_135, mc_136, mc_137, mc_138, mc_139, mc_140, mc_141, mc_142, mc_143, mc_144, mc_145, mc_146, mc_147, mc_148, mc_149, mc_150, mc_151, mc_152, mc_153, mc_154, mc_155, mc_156, mc_157, mc_158, mc_159, mc_160, mc_161, mc_162, mc_163, mc_164, mc_165, mc_166, mc_167, mc_168, mc_169, mc_170, mc_171, mc_172, mc_173, trivial⟩
theorem MC_ok (mm : Nat) (h : mm < nM) : chkL (oM mm) (mI mm) (mR mm) (lM mm) (bM mm) (MT mm).1 0 = true := by
  have := AllQ.at nM 0 mm MC_all h
  rw [Nat.zero_add] at this
  exact this
def Kf (E : SE) (G : Heap) (L : Nat) (xs : Nat → Int32) (U : State) : Prop :=
  (∀ w ∈ lw_tbl, goodWord w = true → ∀ a : Array Value, w.before a U = true) ∧
  (∀ w ∈ lw_tbl, isNest w = true → ∀ a : Array Value, w.before a U = true) ∧
  va_K (eD E) vwCl [(eI E, .int), (eC E, .char), (eZ E, .boolean)] U ∧
  (∀ c ∈ RCL, ArrOfT U (eR E c) (.object (cN c)) ∧ va_RA U (eR E c) (.object (cN c)) ∧ va_AO (cN c) U) ∧
  (∀ q ∈ SLL, vk_R (cN q.1) q.2.1 (stx q.2.2) (eK E q.2.2) U) ∧
  va_X (eB E) L xs U G ∧ eB E < eS E ∧ G.size = eS E ∧
  ∃ adV, vk_S nS lenS bytS (eK E) adV (fun q => eS E ≤ q) U G ∧ va_Z "java/lang/String" "COMPACT_STRINGS" "Z" (.int 1) (fun q => eS E ≤ q) U G ∧ va_Zq "jdk/internal/util/Preconditions" "SIOOBE_FORMATTER" "Ljava/util/function/BiFunction;" (fun q => eS E ≤ q) U G
theorem Kf.warm {E : SE} {G : Heap} {L : Nat} {xs : Nat → Int32} {s U : State} (hW : s.WarmedH U.vm) (h : Kf E G L xs s) : Kf E G L xs U := by
  obtain ⟨h1, h2, h3, h4, h5, h6, h7, h8, adV, h9⟩ := h
  refine ⟨fun w hw hg a => word_at hW (good_of_word hg) (h1 w hw hg #[]), fun w hw hg a => ?_, va_K.moved hW.alike h3, fun c hc => ⟨arrOfT_moved hW.alike (h4 c hc).1, (h4 c hc).2.1.moved hW.alike, (h4 c hc).2.2.moved hW.alike⟩, fun q hq => (h5 q hq).warm hW, h6.moved hW.alike, h7, h8, adV, h9.1.moved hW.alike, va_Z.moved hW.alike h9.2.1, va_Zq.moved hW.alike h9.2.2⟩
  have h0 := h2 w hw hg #[]
  cases w <;> first
    | (simp [isNest] at hg; done)
    | exact va_Nw.use rfl (va_Nw.warmF hW h0)
    | exact va_Nw.use rfl (va_Nw.warmM hW h0)
def Cx (p : Program) (m : MethodId) (c : Code) (meth : Method) (s : State) (oc : Nat) (ini : Bool) (nL : Nat) (cc : ByteArray) : Prop :=
  p.tables.exec = Jvm.exec ∧ c.code = cc ∧ c.maxLocals = nL ∧ s.vm.findClass (cN oc) = some m.cls ∧ (ini = true → meth.name = "<init>")
def fldv (E : SE) (H : AH) (c a k : Nat) : Value := if fI c k = true then Value.int (gi H a k) else va_rf (rfh E (gr H a k))
theorem flds_V (E : SE) (H : AH) {c a k : Nat} (hk : k < fN c) : vp_V (flds E H c a) k = fldv E H c a k := by
  unfold vp_V
  rw [List.getD_eq_getElem?_getD, flds_get E H hk]
  rfl
def okL (E : SE) (locs : List Loc) : Prop := ∀ q ∈ locs, eS E ≤ q.base
theorem okL.app {E : SE} {locs : List Loc} {a i : Nat} (h : okL E locs) (ha : eS E ≤ a) : okL E (locs ++ [⟨a, i⟩]) := by
  intro q hq
  rcases List.mem_append.mp hq with h1 | h1
  · exact h q h1
  · rw [List.mem_singleton.mp h1]; exact ha
section SMC
variable {E : SE} {G : Heap} {L : Nat} {xs : Nat → Int32} {H : AH} {Hr : Heap}
theorem Sim.obj (h : Sim E G L xs H Hr) {a c : Nat} (hk : (kd H a).1 = 20 + c) (hc : c < nC) : K0 ≤ a ∧ a < nx H ∧ ∃ cell : Cell, Hr[ad E a]? = some cell ∧ cell.cls = (eD E).1 c ∧ cell.vm = .none ∧ ∀ k, k < fN c → cell.slots[(eD E).2 c k]? = some (fldv E H c a k) := by
  have hm := h.2.2.2.1.made (a := a) (by omega) (by omega) (by omega)
  refine ⟨hm.1, hm.2, ?_⟩
  have h1 := h.1 a hm.1 hm.2
  rw [cellE_o E hk (by have := cl_lt hc; omega)] at h1
  obtain ⟨r, hr, cell, q1, q2, q3, q4⟩ := h1
  have hr2 : vwCl[c]? = some (cN c, cT c, fN c) := cl_nm c hc
  have hr : r = (cN c, cT c, fN c) := Option.some.inj (hr.symm.trans hr2)
  subst hr
  exact ⟨cell, q1, q2, q3, fun k hk => by rw [q4 k hk, flds_V E H hk]⟩
theorem Sim.int (h : Sim E G L xs H Hr) {a : Nat} (hk : (kd H a).1 = 1) : K0 ≤ a ∧ a < nx H ∧ Hr[ad E a]? = some (vp_cell (eI E) ((kd H a).2, .inl (gi H a))) := by
  have hm := h.2.2.2.1.made (a := a) (by omega) (by omega) (by omega)
  refine ⟨hm.1, hm.2, ?_⟩
  have h1 := h.1 a hm.1 hm.2
  rw [cellE_1 E hk] at h1
  exact h1
theorem Sim.chr (h : Sim E G L xs H Hr) {a : Nat} (hk : (kd H a).1 = 2) : K0 ≤ a ∧ a < nx H ∧ Hr[ad E a]? = some (vp_cell (eC E) ((kd H a).2, .inl (gi H a))) := by
  have hm := h.2.2.2.1.made (a := a) (by omega) (by omega) (by omega)
  refine ⟨hm.1, hm.2, ?_⟩
  have h1 := h.1 a hm.1 hm.2
  rw [cellE_2 E hk] at h1
  exact h1
theorem Sim.boo (h : Sim E G L xs H Hr) {a : Nat} (hk : (kd H a).1 = 3) : K0 ≤ a ∧ a < nx H ∧ Hr[ad E a]? = some (vp_cell (eZ E) ((kd H a).2, .inl (gi H a))) := by
  have hm := h.2.2.2.1.made (a := a) (by omega) (by omega) (by omega)
  refine ⟨hm.1, hm.2, ?_⟩
  have h1 := h.1 a hm.1 hm.2
  rw [cellE_3 E hk] at h1
  exact h1
theorem Sim.row (h : Sim E G L xs H Hr) {a c : Nat} (hk : (kd H a).1 = 60 + c) : K0 ≤ a ∧ a < nx H ∧ Hr[ad E a]? = some (vp_cell (eR E c) ((kd H a).2, .inr (.inr (.inr (.inr (fun j => rfh E (gr H a j))))))) := by
  have hm := h.2.2.2.1.made (a := a) (by omega) (by omega) (by omega)
  refine ⟨hm.1, hm.2, ?_⟩
  have h1 := h.1 a hm.1 hm.2
  rw [cellE_q E hk] at h1
  exact h1
theorem K0_ne {a : Nat} (h : K0 ≤ a) : a ≠ 0 := by
  have hk : 2 ≤ K0 := by decide
  omega
theorem Sim.eSle {a : Nat} (ha : K0 ≤ a) : eS E ≤ ad E a := by rw [ad_new E ha]; omega
end SMC
