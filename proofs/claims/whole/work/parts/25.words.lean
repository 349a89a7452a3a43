/-! what is known of the classes, the tables' words, the start's heap. Wanted ahead: cNL, vwCl, nC, fN, fC, fF, lw_tbl, RCL, SLL, stx, nS, lenS, bytS -/
def dfC : vw_C := ("", fun _ => ("", "", "", false), 0)
def cN (c : Nat) : String := cNL.getD c ""
def cT (c : Nat) : u_T := (vwCl.getD c dfC).2.1
def fT (c k : Nat) : FieldType := (parseFieldDescriptor (cT c k).2.2.1).getD .int
def tcode : FieldType → Nat
  | .int => 0
  | .boolean => 1
  | .char => 2
  | .object _ => 3
  | .array _ => 3
  | _ => 9
def isNest : Cond → Bool
  | .fieldLinkNest .. => true
  | .methodLinkNest .. => true
  | _ => false
/-- the tables' link of a field, plain or of a nest mate -/
def flW (oc j c k : Nat) : Prop := (Cond.fieldLink (cN oc) j (cN c) (cT c k).2.1 (cT c k).2.2.1 ∈ lw_tbl) ∨ (oc ≠ c ∧ ∃ host, Cond.fieldLinkNest (cN oc) j (cN c) (cT c k).2.1 (cT c k).2.2.1 host ∈ lw_tbl)
def FLP : List Nat := [129, 128, 130, 131, 132, 201, 202, 60, 61, 95, 96, 97, 98, 99, 100, 94, 102, 101, 82, 84, 80, 182, 183, 160, 156, 159, 162, 164, 214, 215, 216, 217, 79, 81, 83, 37, 38, 39, 40, 228, 229, 227, 157, 230, 241, 242, 243, 244, 245, 247, 240, 246, 248, 158, 161, 165, 163, 249, 250, 799, 800, 802, 803, 805, 806, 807, 809, 813, 816, 817, 818, 819, 804, 801, 810, 812, 811, 808, 814, 820, 815]
def CLP : List (Nat × Nat × Nat) := [(73, 74, 5), (92, 28, 2), (180, 151, 8), (195, 196, 11), (208, 209, 12), (27, 28, 2), (52, 175, 9), (54, 55, 3), (67, 68, 4), (122, 123, 6), (150, 151, 8), (189, 190, 10), (19, 20, 1), (793, 794, 13)]
def MLP : List Nat := [127, 773, 200, 528, 529, 530, 616, 625, 539, 543, 59, 375, 379, 392, 383, 371, 396, 391, 399, 72, 75, 93, 424, 434, 435, 439, 452, 467, 471, 428, 429, 433, 443, 448, 456, 461, 465, 466, 460, 179, 155, 213, 621, 629, 630, 689, 697, 723, 727, 635, 734, 693, 701, 704, 705, 706, 715, 710, 639, 649, 78, 475, 447, 32, 33, 355, 301, 387, 194, 197, 210, 522, 523, 524, 531, 574, 583, 588, 592, 739, 740, 753, 535, 547, 551, 554, 558, 562, 587, 596, 600, 604, 608, 612, 617, 24, 29, 56, 69, 124, 144, 147, 152, 176, 191, 278, 281, 289, 293, 297, 308, 316, 324, 332, 340, 348, 352, 359, 400, 416, 363, 420, 476, 484, 492, 504, 496, 518, 570, 579, 749, 344, 761, 769, 774, 786, 367, 404, 408, 412, 778, 798, 886, 914, 918, 910, 906, 922, 871, 874, 890, 898, 902, 882, 894, 926, 878, 930, 934, 938, 950, 958, 978, 1018, 1010, 1014, 1022, 1006, 1054, 1050, 1062, 1046, 1058, 1034, 1038, 1042, 790, 21, 795, 274, 974, 285, 982, 304, 986, 312, 990, 320, 994, 328, 998, 336, 867, 480, 942, 488, 946, 500, 954, 505, 962, 509, 966, 510, 970, 514, 1002, 566, 1026, 575, 1030, 745, 1066, 757, 1070, 765, 1074, 782, 1078]
def MIP : List (Nat × Nat × Nat × Nat) := [(126, 6, 125, 100000), (789, 6, 787, 788), (347, 6, 345, 346), (781, 6, 779, 780), (764, 6, 762, 763), (407, 6, 405, 406), (772, 6, 770, 771), (199, 11, 198, 100000), (527, 11, 525, 526), (615, 11, 613, 614), (557, 11, 555, 556), (565, 11, 563, 564), (628, 11, 626, 627), (542, 11, 540, 541), (726, 11, 724, 725), (624, 11, 622, 623), (538, 11, 536, 537), (550, 11, 548, 549), (607, 11, 605, 606), (611, 11, 609, 610), (561, 11, 559, 560), (546, 11, 545, 100000), (58, 3, 57, 100000), (374, 3, 372, 373), (370, 3, 368, 369), (378, 3, 377, 100000), (395, 3, 394, 100000), (398, 3, 397, 100000), (71, 4, 70, 100000), (479, 4, 477, 478), (423, 4, 421, 422), (427, 4, 426, 100000), (442, 4, 441, 100000), (451, 4, 450, 100000), (455, 4, 454, 100000), (459, 4, 458, 100000), (178, 9, 177, 100000), (351, 9, 349, 350), (366, 9, 364, 365), (419, 9, 417, 418), (499, 9, 497, 498), (415, 9, 413, 414), (154, 8, 153, 100000), (212, 12, 211, 100000), (591, 12, 589, 590), (743, 12, 741, 742), (756, 12, 754, 755), (599, 12, 597, 598), (620, 12, 618, 619), (633, 12, 631, 632), (692, 12, 691, 100000), (730, 12, 729, 100000), (737, 12, 736, 100000), (700, 12, 699, 100000), (709, 12, 708, 100000), (718, 12, 717, 100000), (638, 12, 637, 100000), (696, 12, 695, 100000), (77, 5, 76, 100000), (432, 5, 430, 431), (438, 5, 436, 437), (474, 5, 472, 473), (470, 5, 468, 469), (446, 5, 444, 445), (31, 2, 30, 100000), (354, 2, 353, 100000), (327, 2, 325, 326), (335, 2, 333, 334), (382, 2, 380, 381), (292, 2, 290, 291), (464, 2, 462, 463), (296, 2, 294, 295), (390, 2, 388, 389), (284, 2, 282, 283), (300, 2, 298, 299), (311, 2, 309, 310), (319, 2, 317, 318), (358, 2, 356, 357), (386, 2, 384, 385), (36, 2, 35, 100000), (193, 10, 192, 100000), (521, 10, 519, 520), (573, 10, 571, 572), (582, 10, 580, 581), (752, 10, 750, 751), (534, 10, 533, 100000), (586, 10, 585, 100000), (595, 10, 594, 100000), (603, 10, 602, 100000), (23, 1, 22, 100000), (277, 1, 275, 276), (288, 1, 286, 287), (307, 1, 305, 306), (315, 1, 313, 314), (323, 1, 321, 322), (331, 1, 329, 330), (339, 1, 337, 338), (483, 1, 481, 482), (491, 1, 489, 490), (503, 1, 501, 502), (508, 1, 506, 507), (495, 1, 493, 494), (513, 1, 511, 512), (517, 1, 515, 516), (569, 1, 567, 568), (578, 1, 576, 577), (748, 1, 746, 747), (760, 1, 758, 759), (768, 1, 766, 767), (785, 1, 783, 784), (280, 1, 279, 100000), (553, 1, 552, 100000), (343, 1, 342, 100000), (487, 1, 486, 100000), (362, 1, 361, 100000), (403, 1, 402, 100000), (411, 1, 410, 100000), (777, 1, 776, 100000), (797, 13, 796, 100000), (889, 13, 888, 100000), (909, 13, 908, 100000), (917, 13, 916, 100000), (921, 13, 920, 100000), (913, 13, 912, 100000), (941, 13, 940, 100000), (905, 13, 904, 100000), (925, 13, 924, 100000), (873, 13, 872, 100000), (877, 13, 876, 100000), (893, 13, 892, 100000), (953, 13, 952, 100000), (901, 13, 900, 100000), (897, 13, 896, 100000), (961, 13, 960, 100000), (885, 13, 884, 100000), (881, 13, 880, 100000), (929, 13, 928, 100000), (870, 13, 868, 869), (933, 13, 932, 100000), (937, 13, 936, 100000), (945, 13, 943, 944), (949, 13, 947, 948), (957, 13, 955, 956), (965, 13, 963, 964), (969, 13, 967, 968), (973, 13, 971, 972), (981, 13, 980, 100000), (977, 13, 975, 976), (985, 13, 983, 984), (989, 13, 987, 988), (993, 13, 991, 992), (997, 13, 995, 996), (1001, 13, 999, 1000), (1013, 13, 1012, 100000), (1021, 13, 1020, 100000), (1017, 13, 1016, 100000), (1025, 13, 1024, 100000), (1009, 13, 1008, 100000), (1005, 13, 1003, 1004), (1029, 13, 1027, 1028), (1057, 13, 1056, 100000), (1053, 13, 1052, 100000), (1065, 13, 1064, 100000), (1061, 13, 1060, 100000), (1049, 13, 1048, 100000), (1045, 13, 1044, 100000), (1041, 13, 1040, 100000), (1037, 13, 1036, 100000), (1033, 13, 1031, 1032), (1069, 13, 1067, 1068), (1073, 13, 1071, 1072), (1077, 13, 1075, 1076), (1081, 13, 1079, 1080), (792, 0, 791, 100000)]
def LYP : List (List Nat) := [[133, 135, 137, 139, 141], [203, 205], [62, 64], [103, 105, 107, 109, 111, 113, 115, 117, 119], [184, 186], [166, 168, 170, 172], [218, 220, 222, 224], [85, 87, 89], [41, 43, 45, 47], [231, 233, 235, 237], [251, 253, 255, 257, 259, 261, 263, 265, 267, 269, 271], [821, 823, 825, 827, 829, 831, 833, 835, 837, 839, 841, 843, 845, 847, 849, 851, 853, 855, 857, 859, 861, 863]]
-- min [145, 7] code ('prog_14_method_69_code', 2, '(Option.some Jvm.ClassFile.FieldType.int)', 146)
-- max [148, 7] code ('prog_14_method_65_code', 2, '(Option.some Jvm.ClassFile.FieldType.int)', 149)
-- cpy [303, 302, 14] code None
-- obj [25] code ('object_method_1_code', 1, '(Option.none : Option Jvm.ClassFile.FieldType)', 26)
-- arrayClass: [(50, '(Jvm.Cond.arrayClass Jvm.ClassFile.FieldType.char)'), (51, '(Jvm.Cond.arrayClass Jvm.ClassFile.FieldType.int)'), (53, '(Jvm.Cond.arrayOver (Jvm.ClassFile.FieldType.object "SharedPages$Page"))'), (181, '(Jvm.Cond.arrayOver (Jvm.ClassFile.FieldType.object "SharedPages$Revision"))'), (744, '(Jvm.Cond.arrayClass Jvm.ClassFile.FieldType.byte)'), (866, '(Jvm.Cond.arrayClass Jvm.ClassFile.FieldType.boolean)')]
/-! the tables held against the Statement's words -/
def AllQ (P : Nat → Prop) : Nat → Nat → Prop
  | _, 0 => True
  | s, n + 1 => P s ∧ AllQ P (s + 1) n
theorem AllQ.at {P : Nat → Prop} : ∀ (n s i : Nat), AllQ P s n → i < n → P (s + i) := by
  intro n
  induction n with
  | zero => intro s i _ h; omega
  | succ n ih =>
    intro s i h hi
    cases i with
    | zero => exact h.1
    | succ i => rw [show s + (i + 1) = s + 1 + i by omega]; exact ih (s + 1) i h.2 (by omega)
theorem zip_all {α β : Type} {f : α × β → Bool} : ∀ {l : List α} {r : List β}, (l.zip r).all f = true → l.length ≤ r.length → ∀ q ∈ l, ∃ p, f (q, p) = true := by
  intro l
  induction l with
  | nil => intro r _ _ q hq; cases hq
  | cons a l ih =>
    intro r h hl q hq
    cases r with
    | nil => simp at hl
    | cons b r =>
      simp only [List.zip_cons_cons, List.all_cons, Bool.and_eq_true] at h
      rcases List.mem_cons.mp hq with rfl | hq
      · exact ⟨b, h.1⟩
      · exact ih h.2 (by simpa using hl) q hq
def wB (p : Nat) (w : Cond) : Bool := decide (tables_1[p]? = some w)
theorem wB_mem {p : Nat} {w : Cond} (h : wB p w = true) : w ∈ lw_tbl := List.mem_append_right _ (List.mem_of_getElem? (of_decide_eq_true h))
theorem cl_lt {c : Nat} (h : c < nC) : c < 40 := Nat.lt_trans h (by decide)
theorem cl_nm0 : ∀ c, c < nC → (vwCl.getD c dfC).1 = cN c ∧ (vwCl.getD c dfC).2.2 = fN c := by decide +kernel
theorem cl_nm (c : Nat) (h : c < nC) : vwCl[c]? = some (cN c, cT c, fN c) := by
  have h1 : c < vwCl.length := h
  have h2 := cl_nm0 c h
  have h3 : vwCl.getD c dfC = vwCl[c] := by rw [List.getD_eq_getElem?_getD, List.getElem?_eq_getElem h1]; rfl
  rw [List.getElem?_eq_getElem h1, ← h3, ← h2.1, ← h2.2]
  rfl
theorem cl_fld : ∀ c, c < nC → ∀ k, k < fN c → (cT c k).1 = cN c ∧ (cT c k).2.2.2 = fF c k ∧ parseFieldDescriptor (cT c k).2.2.1 = some (fT c k) ∧ tcode (fT c k) = fC c k := by decide +kernel
theorem cl_c3 : ∀ c, c < nC → ∀ k, k < fN c → fC c k ≤ 3 := by decide +kernel
theorem cl_dis : ∀ c, c < nC → ∀ a, a < fN c → ∀ b, b < fN c → a ≠ b → (cT c a).2.1 ≠ (cT c b).2.1 := by decide +kernel
theorem cl_ws0 : ∀ c, c < nC → ((u_ws (cN c) (cT c) (fN c)).zip (LYP.getD c [])).all (fun q => wB q.2 q.1 && goodWord q.1) = true := by decide +kernel
theorem cl_ws1 : ∀ c, c < nC → fN c ≤ (LYP.getD c []).length := by decide +kernel
theorem cl_ws (c : Nat) (h : c < nC) (w : Cond) (hw : w ∈ u_ws (cN c) (cT c) (fN c)) : w ∈ lw_tbl ∧ goodWord w = true := by
  obtain ⟨p, hp⟩ := zip_all (cl_ws0 c h) (by unfold u_ws; rw [List.length_map, List.length_range]; exact cl_ws1 c h) w hw
  simp only [Bool.and_eq_true] at hp
  exact ⟨wB_mem hp.1, hp.2⟩
theorem rcl_lt : ∀ c ∈ RCL, c < nC := by decide
def flB (q : (Nat × Nat × Nat × Nat) × Nat) : Bool := decide (q.1.2.2.1 < nC) && decide (q.1.2.2.2 < fN q.1.2.2.1) &&
  (wB q.2 (Cond.fieldLink (cN q.1.1) q.1.2.1 (cN q.1.2.2.1) (cT q.1.2.2.1 q.1.2.2.2).2.1 (cT q.1.2.2.1 q.1.2.2.2).2.2.1) || (decide (q.1.1 ≠ q.1.2.2.1) && wB q.2 (Cond.fieldLinkNest (cN q.1.1) q.1.2.1 (cN q.1.2.2.1) (cT q.1.2.2.1 q.1.2.2.2).2.1 (cT q.1.2.2.1 q.1.2.2.2).2.2.1 "SharedPages")))
theorem FLL_chk : (FLL.zip FLP).all flB = true := by decide +kernel
set_option maxRecDepth 100000 in
theorem FLL_ok (q : Nat × Nat × Nat × Nat) (hq : q ∈ FLL) : q.2.2.1 < nC ∧ q.2.2.2 < fN q.2.2.1 ∧ flW q.1 q.2.1 q.2.2.1 q.2.2.2 := by
  obtain ⟨p, hp⟩ := zip_all FLL_chk (Nat.le_of_ble_eq_true rfl) q hq
  simp only [flB, Bool.and_eq_true, Bool.or_eq_true, decide_eq_true_eq] at hp
  refine ⟨hp.1.1, hp.1.2, ?_⟩
  rcases hp.2 with h | h
  · exact Or.inl (wB_mem h)
  · exact Or.inr ⟨h.1, _, wB_mem h.2⟩
def clB (q : (Nat × Nat × Nat) × Nat × Nat × Nat) : Bool := decide (q.1.2.2 < nC) && wB q.2.1 (Cond.classLink (cN q.1.1) q.1.2.1 (cN q.1.2.2)) && wB q.2.2.1 (Cond.instantiable (cN q.1.2.2) (fN q.1.2.2)) && wB q.2.2.2 (Cond.initialized (cN q.1.2.2))
theorem CLL_chk : (CLL.zip CLP).all clB = true := by decide +kernel
set_option maxRecDepth 100000 in
theorem CLL_ok (q : Nat × Nat × Nat) (hq : q ∈ CLL) : q.2.2 < nC ∧ Cond.classLink (cN q.1) q.2.1 (cN q.2.2) ∈ lw_tbl ∧ Cond.instantiable (cN q.2.2) (fN q.2.2) ∈ lw_tbl ∧ Cond.initialized (cN q.2.2) ∈ lw_tbl := by
  obtain ⟨p, hp⟩ := zip_all CLL_chk (Nat.le_of_ble_eq_true rfl) q hq
  simp only [clB, Bool.and_eq_true, decide_eq_true_eq] at hp
  exact ⟨hp.1.1.1, wB_mem hp.1.1.2, wB_mem hp.1.2, wB_mem hp.2⟩
theorem SLL_ok : ∀ q ∈ SLL, q.2.2 < nS := by decide
def yJ (n : Nat) : MethodName := if n = 1049 then Lib.Math.min.name else if n = 1050 then Lib.Math.max.name else if n = 1051 then arraycopyName else if n = 1052 then Lib.objectInit else if n = 1054 then ⟨"java/lang/String", "length", "()I"⟩ else ⟨"java/lang/String", "charAt", "(I)C"⟩
def mlB (q : (Nat × Nat × Nat) × Nat) : Bool := if 1000 ≤ q.1.2.2 then wB q.2 (Cond.methodLink (cN q.1.1) q.1.2.1 (yJ q.1.2.2))
  else decide (q.1.2.2 < nM) && (wB q.2 (Cond.methodLink (cN q.1.1) q.1.2.1 (yM q.1.2.2)) || wB q.2 (Cond.methodLinkNest (cN q.1.1) q.1.2.1 (yM q.1.2.2) "SharedPages"))
theorem MLL_chk : (MLL.zip MLP).all mlB = true := by decide +kernel
set_option maxRecDepth 100000 in
theorem MLL_j (q : Nat × Nat × Nat) (hq : q ∈ MLL) (h : 1000 ≤ q.2.2) : Cond.methodLink (cN q.1) q.2.1 (yJ q.2.2) ∈ lw_tbl := by
  obtain ⟨p, hp⟩ := zip_all MLL_chk (Nat.le_of_ble_eq_true rfl) q hq
  simp only [mlB, if_pos h] at hp
  exact wB_mem hp
/-- what the tables say of a method -/
def miW (mm : Nat) : Prop := Cond.code (yM mm) (bM mm) (lM mm) (rM mm) ∈ lw_tbl ∧ Cond.initialized (yM mm).cls ∈ lw_tbl ∧ (yM mm).cls = cN (oM mm) ∧ ((yM mm).cls ≠ "java/lang/invoke/MethodHandle" ∧ (yM mm).cls ≠ "java/lang/invoke/VarHandle") ∧ plainName (yM mm).cls = true ∧ lM mm ≤ 45 ∧ mA mm ≤ lM mm ∧ (MT mm).2.1 = lM mm ∧
  ((mK mm = 1 ∧ (MT mm).2.2 = 0 ∧ Cond.static (yM mm) ∈ lw_tbl ∧ (parseMethodDescriptor (yM mm).desc).map (fun d => d.parameters.length) = some (mA mm)) ∨
   ((mK mm = 0 ∨ mK mm = 2) ∧ (MT mm).2.2 = 1 + oM mm ∧ oM mm < nC ∧ Cond.instanceMethod (yM mm) ∈ lw_tbl ∧ (parseMethodDescriptor (yM mm).desc).map (fun d => d.parameters.length + 1) = some (mA mm) ∧ (mK mm = 0 → Cond.selects (yM mm).cls (yM mm) (yM mm) ∈ lw_tbl) ∧ (mK mm = 2 → (yM mm).name = "<init>" ∧ rM mm = none)))
def mlW (oc j mm : Nat) : Prop := mm < nM ∧ ((Cond.methodLink (cN oc) j (yM mm) ∈ lw_tbl) ∨ ∃ host, Cond.methodLinkNest (cN oc) j (yM mm) host ∈ lw_tbl)
theorem nM_le : nM ≤ 1000 := by decide
set_option maxRecDepth 100000 in
theorem MLL_ok (q : Nat × Nat × Nat) (hq : q ∈ MLL) (h : q.2.2 < nM) : mlW q.1 q.2.1 q.2.2 := by
  obtain ⟨p, hp⟩ := zip_all MLL_chk (Nat.le_of_ble_eq_true rfl) q hq
  have hn := nM_le
  rw [mlB, if_neg (show ¬ 1000 ≤ q.2.2 by omega)] at hp
  simp only [Bool.and_eq_true, Bool.or_eq_true, decide_eq_true_eq] at hp
  refine ⟨hp.1, ?_⟩
  rcases hp.2 with h | h
  · exact Or.inl (wB_mem h)
  · exact Or.inr ⟨_, wB_mem h⟩
theorem MLL_min (q : Nat × Nat × Nat) (hq : q ∈ MLL) (h : q.2.2 = 1049) : Cond.methodLink (cN q.1) q.2.1 Lib.Math.min.name ∈ lw_tbl := by
  have := MLL_j q hq (by omega)
  rw [h] at this
  exact this
theorem MLL_max (q : Nat × Nat × Nat) (hq : q ∈ MLL) (h : q.2.2 = 1050) : Cond.methodLink (cN q.1) q.2.1 Lib.Math.max.name ∈ lw_tbl := by
  have := MLL_j q hq (by omega)
  rw [h] at this
  exact this
theorem MLL_cpy (q : Nat × Nat × Nat) (hq : q ∈ MLL) (h : q.2.2 = 1051) : Cond.methodLink (cN q.1) q.2.1 arraycopyName ∈ lw_tbl := by
  have := MLL_j q hq (by omega)
  rw [h] at this
  exact this
theorem MLL_obj (q : Nat × Nat × Nat) (hq : q ∈ MLL) (h : q.2.2 = 1052) : Cond.methodLink (cN q.1) q.2.1 Lib.objectInit ∈ lw_tbl := by
  have := MLL_j q hq (by omega)
  rw [h] at this
  exact this
theorem MX_min : Cond.static Lib.Math.min.name ∈ lw_tbl ∧ Cond.initialized "java/lang/Math" ∈ lw_tbl ∧ Cond.code Lib.Math.min.name Lib.Math.min.code 2 (some .int) ∈ lw_tbl := ⟨wB_mem (p := 145) (by decide +kernel), wB_mem (p := 7) (by decide +kernel), wB_mem (p := 146) (by decide +kernel)⟩
theorem MX_max : Cond.static Lib.Math.max.name ∈ lw_tbl ∧ Cond.initialized "java/lang/Math" ∈ lw_tbl ∧ Cond.code Lib.Math.max.name Lib.Math.max.code 2 (some .int) ∈ lw_tbl := ⟨wB_mem (p := 148) (by decide +kernel), wB_mem (p := 7) (by decide +kernel), wB_mem (p := 149) (by decide +kernel)⟩
theorem MX_cpy : Cond.native arraycopyName ∈ lw_tbl ∧ Cond.static arraycopyName ∈ lw_tbl ∧ Cond.initialized "java/lang/System" ∈ lw_tbl := ⟨wB_mem (p := 303) (by decide +kernel), wB_mem (p := 302) (by decide +kernel), wB_mem (p := 14) (by decide +kernel)⟩
theorem MX_obj : Cond.instanceMethod Lib.objectInit ∈ lw_tbl ∧ Cond.code Lib.objectInit ⟨#[0xb1]⟩ 1 none ∈ lw_tbl := ⟨wB_mem (p := 25) (by decide +kernel), wB_mem (p := 26) (by decide +kernel)⟩
theorem ar_int : Cond.arrayClass (newarray.typeOf .int) ∈ lw_tbl := wB_mem (p := 51) (by decide +kernel)
theorem ar_char : Cond.arrayClass (newarray.typeOf .char) ∈ lw_tbl := wB_mem (p := 50) (by decide +kernel)
theorem ar_boolean : Cond.arrayClass (newarray.typeOf .boolean) ∈ lw_tbl := wB_mem (p := 866) (by decide +kernel)
theorem mK_lt {a : Nat} (h : mK a < 3) : a < nM := by
  cases hh : sm_nth mKL a with
  | none => unfold mK at h; rw [hh] at h; simp at h
  | some v =>
    have : ∀ (l : List Nat) (k v : Nat), sm_nth l k = some v → k < l.length := by
      intro l
      induction l with
      | nil => intro k v h; simp [sm_nth] at h
      | cons x l ih =>
        intro k v h
        cases k with
        | zero => simp
        | succ k => simp only [sm_nth] at h; have := ih k v h; simp only [List.length_cons]; omega
    exact this _ _ _ hh
def miB (q : Nat × Nat × Nat × Nat × Nat) : Bool := wB q.2.2.1 (Cond.initialized (yM q.1).cls) && decide ((yM q.1).cls = cN (oM q.1)) && decide ((yM q.1).cls ≠ "java/lang/invoke/MethodHandle" ∧ (yM q.1).cls ≠ "java/lang/invoke/VarHandle") && plainName (yM q.1).cls && decide (lM q.1 ≤ 45) && decide (mA q.1 ≤ lM q.1) && decide ((MT q.1).2.1 = lM q.1) &&
  ((decide (mK q.1 = 1) && decide ((MT q.1).2.2 = 0) && wB q.2.2.2.1 (Cond.static (yM q.1)) && decide ((parseMethodDescriptor (yM q.1).desc).map (fun d => d.parameters.length) = some (mA q.1))) ||
   (decide (mK q.1 = 0 ∨ mK q.1 = 2) && decide ((MT q.1).2.2 = 1 + oM q.1) && decide (oM q.1 < nC) && wB q.2.2.2.1 (Cond.instanceMethod (yM q.1)) && decide ((parseMethodDescriptor (yM q.1).desc).map (fun d => d.parameters.length + 1) = some (mA q.1)) &&
    (!decide (mK q.1 = 0) || wB q.2.2.2.2 (Cond.selects (yM q.1).cls (yM q.1) (yM q.1)) || lw_privs.any (fun z => decide (z.1 = yM q.1))) && (!decide (mK q.1 = 2) || (decide ((yM q.1).name = "<init>") && decide (rM q.1 = none)))))
