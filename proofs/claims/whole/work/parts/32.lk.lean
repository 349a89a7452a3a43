/-! what the check of an instruction says, opcode by opcode -/
theorem lkI_6 {oc : Nat} {ini : Bool} {rt nL pc len : Nat} {cst : Int32} {a b : Nat} {tl : List Nat} {x : Instr} (h : lkI oc ini rt nL pc len (6, cst, a, b, tl) x = true) : x = .iadd ∧ len = 1 := by
  simp only [lkI] at h
  split at h
  · simp only [Bool.and_eq_true, Bool.or_eq_true, Bool.not_eq_true', decide_eq_true_eq, lkB] at h
    exact ⟨rfl, h⟩
  · cases h
theorem lkI_7 {oc : Nat} {ini : Bool} {rt nL pc len : Nat} {cst : Int32} {a b : Nat} {tl : List Nat} {x : Instr} (h : lkI oc ini rt nL pc len (7, cst, a, b, tl) x = true) : x = .isub ∧ len = 1 := by
  simp only [lkI] at h
  split at h
  · simp only [Bool.and_eq_true, Bool.or_eq_true, Bool.not_eq_true', decide_eq_true_eq, lkB] at h
    exact ⟨rfl, h⟩
  · cases h
theorem lkI_8 {oc : Nat} {ini : Bool} {rt nL pc len : Nat} {cst : Int32} {a b : Nat} {tl : List Nat} {x : Instr} (h : lkI oc ini rt nL pc len (8, cst, a, b, tl) x = true) : x = .imul ∧ len = 1 := by
  simp only [lkI] at h
  split at h
  · simp only [Bool.and_eq_true, Bool.or_eq_true, Bool.not_eq_true', decide_eq_true_eq, lkB] at h
    exact ⟨rfl, h⟩
  · cases h
theorem lkI_9 {oc : Nat} {ini : Bool} {rt nL pc len : Nat} {cst : Int32} {a b : Nat} {tl : List Nat} {x : Instr} (h : lkI oc ini rt nL pc len (9, cst, a, b, tl) x = true) : x = .idiv ∧ len = 1 := by
  simp only [lkI] at h
  split at h
  · simp only [Bool.and_eq_true, Bool.or_eq_true, Bool.not_eq_true', decide_eq_true_eq, lkB] at h
    exact ⟨rfl, h⟩
  · cases h
theorem lkI_10 {oc : Nat} {ini : Bool} {rt nL pc len : Nat} {cst : Int32} {a b : Nat} {tl : List Nat} {x : Instr} (h : lkI oc ini rt nL pc len (10, cst, a, b, tl) x = true) : x = .irem ∧ len = 1 := by
  simp only [lkI] at h
  split at h
  · simp only [Bool.and_eq_true, Bool.or_eq_true, Bool.not_eq_true', decide_eq_true_eq, lkB] at h
    exact ⟨rfl, h⟩
  · cases h
theorem lkI_11 {oc : Nat} {ini : Bool} {rt nL pc len : Nat} {cst : Int32} {a b : Nat} {tl : List Nat} {x : Instr} (h : lkI oc ini rt nL pc len (11, cst, a, b, tl) x = true) : x = .iand ∧ len = 1 := by
  simp only [lkI] at h
  split at h
  · simp only [Bool.and_eq_true, Bool.or_eq_true, Bool.not_eq_true', decide_eq_true_eq, lkB] at h
    exact ⟨rfl, h⟩
  · cases h
theorem lkI_12 {oc : Nat} {ini : Bool} {rt nL pc len : Nat} {cst : Int32} {a b : Nat} {tl : List Nat} {x : Instr} (h : lkI oc ini rt nL pc len (12, cst, a, b, tl) x = true) : x = .ior ∧ len = 1 := by
  simp only [lkI] at h
  split at h
  · simp only [Bool.and_eq_true, Bool.or_eq_true, Bool.not_eq_true', decide_eq_true_eq, lkB] at h
    exact ⟨rfl, h⟩
  · cases h
theorem lkI_13 {oc : Nat} {ini : Bool} {rt nL pc len : Nat} {cst : Int32} {a b : Nat} {tl : List Nat} {x : Instr} (h : lkI oc ini rt nL pc len (13, cst, a, b, tl) x = true) : x = .ixor ∧ len = 1 := by
  simp only [lkI] at h
  split at h
  · simp only [Bool.and_eq_true, Bool.or_eq_true, Bool.not_eq_true', decide_eq_true_eq, lkB] at h
    exact ⟨rfl, h⟩
  · cases h
theorem lkI_14 {oc : Nat} {ini : Bool} {rt nL pc len : Nat} {cst : Int32} {a b : Nat} {tl : List Nat} {x : Instr} (h : lkI oc ini rt nL pc len (14, cst, a, b, tl) x = true) : x = .ishl ∧ len = 1 := by
  simp only [lkI] at h
  split at h
  · simp only [Bool.and_eq_true, Bool.or_eq_true, Bool.not_eq_true', decide_eq_true_eq, lkB] at h
    exact ⟨rfl, h⟩
  · cases h
theorem lkI_15 {oc : Nat} {ini : Bool} {rt nL pc len : Nat} {cst : Int32} {a b : Nat} {tl : List Nat} {x : Instr} (h : lkI oc ini rt nL pc len (15, cst, a, b, tl) x = true) : x = .ishr ∧ len = 1 := by
  simp only [lkI] at h
  split at h
  · simp only [Bool.and_eq_true, Bool.or_eq_true, Bool.not_eq_true', decide_eq_true_eq, lkB] at h
    exact ⟨rfl, h⟩
  · cases h
theorem lkI_16 {oc : Nat} {ini : Bool} {rt nL pc len : Nat} {cst : Int32} {a b : Nat} {tl : List Nat} {x : Instr} (h : lkI oc ini rt nL pc len (16, cst, a, b, tl) x = true) : x = .ineg ∧ len = 1 := by
  simp only [lkI] at h
  split at h
  · simp only [Bool.and_eq_true, Bool.or_eq_true, Bool.not_eq_true', decide_eq_true_eq, lkB] at h
    exact ⟨rfl, h⟩
  · cases h
theorem lkI_17 {oc : Nat} {ini : Bool} {rt nL pc len : Nat} {cst : Int32} {a b : Nat} {tl : List Nat} {x : Instr} (h : lkI oc ini rt nL pc len (17, cst, a, b, tl) x = true) : x = .i2c ∧ len = 1 := by
  simp only [lkI] at h
  split at h
  · simp only [Bool.and_eq_true, Bool.or_eq_true, Bool.not_eq_true', decide_eq_true_eq, lkB] at h
    exact ⟨rfl, h⟩
  · cases h
theorem lkI_20 {oc : Nat} {ini : Bool} {rt nL pc len : Nat} {cst : Int32} {a b : Nat} {tl : List Nat} {x : Instr} (h : lkI oc ini rt nL pc len (20, cst, a, b, tl) x = true) : x = .dup ∧ len = 1 := by
  simp only [lkI] at h
  split at h
  · simp only [Bool.and_eq_true, Bool.or_eq_true, Bool.not_eq_true', decide_eq_true_eq, lkB] at h
    exact ⟨rfl, h⟩
  · cases h
theorem lkI_21 {oc : Nat} {ini : Bool} {rt nL pc len : Nat} {cst : Int32} {a b : Nat} {tl : List Nat} {x : Instr} (h : lkI oc ini rt nL pc len (21, cst, a, b, tl) x = true) : x = .dup_x1 ∧ len = 1 := by
  simp only [lkI] at h
  split at h
  · simp only [Bool.and_eq_true, Bool.or_eq_true, Bool.not_eq_true', decide_eq_true_eq, lkB] at h
    exact ⟨rfl, h⟩
  · cases h
theorem lkI_22 {oc : Nat} {ini : Bool} {rt nL pc len : Nat} {cst : Int32} {a b : Nat} {tl : List Nat} {x : Instr} (h : lkI oc ini rt nL pc len (22, cst, a, b, tl) x = true) : x = .dup2 ∧ len = 1 := by
  simp only [lkI] at h
  split at h
  · simp only [Bool.and_eq_true, Bool.or_eq_true, Bool.not_eq_true', decide_eq_true_eq, lkB] at h
    exact ⟨rfl, h⟩
  · cases h
theorem lkI_23 {oc : Nat} {ini : Bool} {rt nL pc len : Nat} {cst : Int32} {a b : Nat} {tl : List Nat} {x : Instr} (h : lkI oc ini rt nL pc len (23, cst, a, b, tl) x = true) : x = .pop ∧ len = 1 := by
  simp only [lkI] at h
  split at h
  · simp only [Bool.and_eq_true, Bool.or_eq_true, Bool.not_eq_true', decide_eq_true_eq, lkB] at h
    exact ⟨rfl, h⟩
  · cases h
theorem lkI_34 {oc : Nat} {ini : Bool} {rt nL pc len : Nat} {cst : Int32} {a b : Nat} {tl : List Nat} {x : Instr} (h : lkI oc ini rt nL pc len (34, cst, a, b, tl) x = true) : x = .iaload ∧ len = 1 := by
  simp only [lkI] at h
  split at h
  · simp only [Bool.and_eq_true, Bool.or_eq_true, Bool.not_eq_true', decide_eq_true_eq, lkB] at h
    exact ⟨rfl, h⟩
  · cases h
theorem lkI_35 {oc : Nat} {ini : Bool} {rt nL pc len : Nat} {cst : Int32} {a b : Nat} {tl : List Nat} {x : Instr} (h : lkI oc ini rt nL pc len (35, cst, a, b, tl) x = true) : x = .caload ∧ len = 1 := by
  simp only [lkI] at h
  split at h
  · simp only [Bool.and_eq_true, Bool.or_eq_true, Bool.not_eq_true', decide_eq_true_eq, lkB] at h
    exact ⟨rfl, h⟩
  · cases h
theorem lkI_36 {oc : Nat} {ini : Bool} {rt nL pc len : Nat} {cst : Int32} {a b : Nat} {tl : List Nat} {x : Instr} (h : lkI oc ini rt nL pc len (36, cst, a, b, tl) x = true) : x = .baload ∧ len = 1 := by
  simp only [lkI] at h
  split at h
  · simp only [Bool.and_eq_true, Bool.or_eq_true, Bool.not_eq_true', decide_eq_true_eq, lkB] at h
    exact ⟨rfl, h⟩
  · cases h
theorem lkI_38 {oc : Nat} {ini : Bool} {rt nL pc len : Nat} {cst : Int32} {a b : Nat} {tl : List Nat} {x : Instr} (h : lkI oc ini rt nL pc len (38, cst, a, b, tl) x = true) : x = .iastore ∧ len = 1 := by
  simp only [lkI] at h
  split at h
  · simp only [Bool.and_eq_true, Bool.or_eq_true, Bool.not_eq_true', decide_eq_true_eq, lkB] at h
    exact ⟨rfl, h⟩
  · cases h
theorem lkI_39 {oc : Nat} {ini : Bool} {rt nL pc len : Nat} {cst : Int32} {a b : Nat} {tl : List Nat} {x : Instr} (h : lkI oc ini rt nL pc len (39, cst, a, b, tl) x = true) : x = .castore ∧ len = 1 := by
  simp only [lkI] at h
  split at h
  · simp only [Bool.and_eq_true, Bool.or_eq_true, Bool.not_eq_true', decide_eq_true_eq, lkB] at h
    exact ⟨rfl, h⟩
  · cases h
theorem lkI_40 {oc : Nat} {ini : Bool} {rt nL pc len : Nat} {cst : Int32} {a b : Nat} {tl : List Nat} {x : Instr} (h : lkI oc ini rt nL pc len (40, cst, a, b, tl) x = true) : x = .bastore ∧ len = 1 := by
  simp only [lkI] at h
  split at h
  · simp only [Bool.and_eq_true, Bool.or_eq_true, Bool.not_eq_true', decide_eq_true_eq, lkB] at h
    exact ⟨rfl, h⟩
  · cases h
theorem lkI_45 {oc : Nat} {ini : Bool} {rt nL pc len : Nat} {cst : Int32} {a b : Nat} {tl : List Nat} {x : Instr} (h : lkI oc ini rt nL pc len (45, cst, a, b, tl) x = true) : x = .arraylength ∧ len = 1 := by
  simp only [lkI] at h
  split at h
  · simp only [Bool.and_eq_true, Bool.or_eq_true, Bool.not_eq_true', decide_eq_true_eq, lkB] at h
    exact ⟨rfl, h⟩
  · cases h
theorem lkI_46 {oc : Nat} {ini : Bool} {rt nL pc len : Nat} {cst : Int32} {a b : Nat} {tl : List Nat} {x : Instr} (h : lkI oc ini rt nL pc len (46, cst, a, b, tl) x = true) : x = .iaload ∧ len = 1 := by
  simp only [lkI] at h
  split at h
  · simp only [Bool.and_eq_true, Bool.or_eq_true, Bool.not_eq_true', decide_eq_true_eq, lkB] at h
    exact ⟨rfl, h⟩
  · cases h
theorem lkI_53 {oc : Nat} {ini : Bool} {rt nL pc len : Nat} {cst : Int32} {a b : Nat} {tl : List Nat} {x : Instr} (h : lkI oc ini rt nL pc len (53, cst, a, b, tl) x = true) : x = .aconst_null ∧ len = 1 := by
  simp only [lkI] at h
  split at h
  · simp only [Bool.and_eq_true, Bool.or_eq_true, Bool.not_eq_true', decide_eq_true_eq, lkB] at h
    exact ⟨rfl, h⟩
  · cases h
theorem lkI_0 {oc : Nat} {ini : Bool} {rt nL pc len : Nat} {cst : Int32} {a b : Nat} {tl : List Nat} {x : Instr} (h : lkI oc ini rt nL pc len (0, cst, a, b, tl) x = true) : (∃ v, x = .iconst v ∧ len = 1 ∧ Int32.ofInt v = cst) ∨ (∃ v, x = .bipush v ∧ len = 2 ∧ (Int8.ofInt v).toInt32 = cst) ∨ (∃ v, x = .sipush v ∧ len = 3 ∧ (Int16.ofInt v).toInt32 = cst) := by
  simp only [lkI] at h
  split at h
  · simp only [Bool.and_eq_true, Bool.or_eq_true, Bool.not_eq_true', decide_eq_true_eq, lkB] at h
    exact Or.inl ⟨_, rfl, h.1, h.2⟩
  · simp only [Bool.and_eq_true, Bool.or_eq_true, Bool.not_eq_true', decide_eq_true_eq, lkB] at h
    exact Or.inr (Or.inl ⟨_, rfl, h.1, h.2⟩)
  · simp only [Bool.and_eq_true, Bool.or_eq_true, Bool.not_eq_true', decide_eq_true_eq, lkB] at h
    exact Or.inr (Or.inr ⟨_, rfl, h.1, h.2⟩)
  · cases h
theorem lkI_1 {oc : Nat} {ini : Bool} {rt nL pc len : Nat} {cst : Int32} {a b : Nat} {tl : List Nat} {x : Instr} (h : lkI oc ini rt nL pc len (1, cst, a, b, tl) x = true) : (∃ k : Fin 4, x = .iload_n k ∧ len = 1 ∧ (k : Nat) = a) ∨ (x = .iload a ∧ len = 2) := by
  simp only [lkI] at h
  split at h
  · simp only [Bool.and_eq_true, Bool.or_eq_true, Bool.not_eq_true', decide_eq_true_eq, lkB] at h
    exact Or.inl ⟨_, rfl, h.1, h.2⟩
  · simp only [Bool.and_eq_true, Bool.or_eq_true, Bool.not_eq_true', decide_eq_true_eq, lkB] at h
    exact Or.inr ⟨by rw [h.2], h.1⟩
  · cases h
theorem lkI_2 {oc : Nat} {ini : Bool} {rt nL pc len : Nat} {cst : Int32} {a b : Nat} {tl : List Nat} {x : Instr} (h : lkI oc ini rt nL pc len (2, cst, a, b, tl) x = true) : (∃ k : Fin 4, x = .aload_n k ∧ len = 1 ∧ (k : Nat) = a) ∨ (x = .aload a ∧ len = 2) := by
  simp only [lkI] at h
  split at h
  · simp only [Bool.and_eq_true, Bool.or_eq_true, Bool.not_eq_true', decide_eq_true_eq, lkB] at h
    exact Or.inl ⟨_, rfl, h.1, h.2⟩
  · simp only [Bool.and_eq_true, Bool.or_eq_true, Bool.not_eq_true', decide_eq_true_eq, lkB] at h
    exact Or.inr ⟨by rw [h.2], h.1⟩
  · cases h
theorem lkI_3 {oc : Nat} {ini : Bool} {rt nL pc len : Nat} {cst : Int32} {a b : Nat} {tl : List Nat} {x : Instr} (h : lkI oc ini rt nL pc len (3, cst, a, b, tl) x = true) : ((∃ k : Fin 4, x = .istore_n k ∧ len = 1 ∧ (k : Nat) = a) ∨ (x = .istore a ∧ len = 2)) ∧ a < nL := by
  simp only [lkI] at h
  split at h
  · simp only [Bool.and_eq_true, Bool.or_eq_true, Bool.not_eq_true', decide_eq_true_eq, lkB] at h
    exact ⟨Or.inl ⟨_, rfl, h.1.1, h.1.2⟩, h.2⟩
  · simp only [Bool.and_eq_true, Bool.or_eq_true, Bool.not_eq_true', decide_eq_true_eq, lkB] at h
    exact ⟨Or.inr ⟨by rw [h.1.2], h.1.1⟩, h.2⟩
  · cases h
theorem lkI_4 {oc : Nat} {ini : Bool} {rt nL pc len : Nat} {cst : Int32} {a b : Nat} {tl : List Nat} {x : Instr} (h : lkI oc ini rt nL pc len (4, cst, a, b, tl) x = true) : ((∃ k : Fin 4, x = .astore_n k ∧ len = 1 ∧ (k : Nat) = a) ∨ (x = .astore a ∧ len = 2)) ∧ a < nL := by
  simp only [lkI] at h
  split at h
  · simp only [Bool.and_eq_true, Bool.or_eq_true, Bool.not_eq_true', decide_eq_true_eq, lkB] at h
    exact ⟨Or.inl ⟨_, rfl, h.1.1, h.1.2⟩, h.2⟩
  · simp only [Bool.and_eq_true, Bool.or_eq_true, Bool.not_eq_true', decide_eq_true_eq, lkB] at h
    exact ⟨Or.inr ⟨by rw [h.1.2], h.1.1⟩, h.2⟩
  · cases h
theorem lkI_5 {oc : Nat} {ini : Bool} {rt nL pc len : Nat} {cst : Int32} {a b : Nat} {tl : List Nat} {x : Instr} (h : lkI oc ini rt nL pc len (5, cst, a, b, tl) x = true) : ∃ v, x = .iinc a v ∧ len = 3 ∧ Int32.ofInt v = cst ∧ a < nL := by
  simp only [lkI] at h
  split at h
  · simp only [Bool.and_eq_true, Bool.or_eq_true, Bool.not_eq_true', decide_eq_true_eq, lkB] at h
    exact ⟨_, by rw [h.1.1.2], h.1.1.1, h.1.2, h.2⟩
  · cases h
theorem lkI_30 {oc : Nat} {ini : Bool} {rt nL pc len : Nat} {cst : Int32} {a b : Nat} {tl : List Nat} {x : Instr} (h : lkI oc ini rt nL pc len (30, cst, a, b, tl) x = true) : ∃ j, x = .getfield j ∧ len = 3 ∧ lk2 FLL oc j = some (a, b) ∧ fC a b ≠ 3 := by
  simp only [lkI] at h
  split at h
  · simp only [Bool.and_eq_true, Bool.or_eq_true, Bool.not_eq_true', decide_eq_true_eq, lkB] at h
    exact ⟨_, rfl, h.1.1, h.1.2, h.2⟩
  · cases h
theorem lkI_31 {oc : Nat} {ini : Bool} {rt nL pc len : Nat} {cst : Int32} {a b : Nat} {tl : List Nat} {x : Instr} (h : lkI oc ini rt nL pc len (31, cst, a, b, tl) x = true) : ∃ j, x = .getfield j ∧ len = 3 ∧ lk2 FLL oc j = some (a, b) ∧ fC a b = 3 := by
  simp only [lkI] at h
  split at h
  · simp only [Bool.and_eq_true, Bool.or_eq_true, Bool.not_eq_true', decide_eq_true_eq, lkB] at h
    exact ⟨_, rfl, h.1.1, h.1.2, h.2⟩
  · cases h
theorem lkI_32 {oc : Nat} {ini : Bool} {rt nL pc len : Nat} {cst : Int32} {a b : Nat} {tl : List Nat} {x : Instr} (h : lkI oc ini rt nL pc len (32, cst, a, b, tl) x = true) : ∃ j, x = .putfield j ∧ len = 3 ∧ lk2 FLL oc j = some (a, b) ∧ fC a b = tl.getD 1 0 ∧ tl.getD 1 0 < 3 ∧ (fF a b = false ∨ (ini = true ∧ oc = a)) := by
  simp only [lkI] at h
  split at h
  · simp only [Bool.and_eq_true, Bool.or_eq_true, Bool.not_eq_true', decide_eq_true_eq, lkB] at h
    exact ⟨_, rfl, h.1.1.1.1, h.1.1.1.2, h.1.1.2, h.1.2, h.2⟩
  · cases h
theorem lkI_33 {oc : Nat} {ini : Bool} {rt nL pc len : Nat} {cst : Int32} {a b : Nat} {tl : List Nat} {x : Instr} (h : lkI oc ini rt nL pc len (33, cst, a, b, tl) x = true) : ∃ j, x = .putfield j ∧ len = 3 ∧ lk2 FLL oc j = some (a, b) ∧ fC a b = 3 ∧ (fF a b = false ∨ (ini = true ∧ oc = a)) := by
  simp only [lkI] at h
  split at h
  · simp only [Bool.and_eq_true, Bool.or_eq_true, Bool.not_eq_true', decide_eq_true_eq, lkB] at h
    exact ⟨_, rfl, h.1.1.1, h.1.1.2, h.1.2, h.2⟩
  · cases h
theorem lkI_37 {oc : Nat} {ini : Bool} {rt nL pc len : Nat} {cst : Int32} {a b : Nat} {tl : List Nat} {x : Instr} (h : lkI oc ini rt nL pc len (37, cst, a, b, tl) x = true) : x = .aaload ∧ len = 1 ∧ a ∈ RCL := by
  simp only [lkI] at h
  split at h
  · simp only [Bool.and_eq_true, Bool.or_eq_true, Bool.not_eq_true', decide_eq_true_eq, lkB] at h
    exact ⟨rfl, h.1, h.2⟩
  · cases h
theorem lkI_41 {oc : Nat} {ini : Bool} {rt nL pc len : Nat} {cst : Int32} {a b : Nat} {tl : List Nat} {x : Instr} (h : lkI oc ini rt nL pc len (41, cst, a, b, tl) x = true) : x = .aastore ∧ len = 1 ∧ a ∈ RCL := by
  simp only [lkI] at h
  split at h
  · simp only [Bool.and_eq_true, Bool.or_eq_true, Bool.not_eq_true', decide_eq_true_eq, lkB] at h
    exact ⟨rfl, h.1, h.2⟩
  · cases h
theorem lkI_42 {oc : Nat} {ini : Bool} {rt nL pc len : Nat} {cst : Int32} {a b : Nat} {tl : List Nat} {x : Instr} (h : lkI oc ini rt nL pc len (42, cst, a, b, tl) x = true) : len = 2 ∧ ∃ t, x = .newarray t ∧ ((t = .int ∧ a = 1) ∨ (t = .char ∧ a = 2) ∨ (t = .boolean ∧ a = 3)) := by
  simp only [lkI] at h
  split at h
  · simp only [Bool.and_eq_true, Bool.or_eq_true, Bool.not_eq_true', decide_eq_true_eq, lkB] at h
    exact ⟨h.1, _, rfl, Or.inl ⟨rfl, h.2⟩⟩
  · simp only [Bool.and_eq_true, Bool.or_eq_true, Bool.not_eq_true', decide_eq_true_eq, lkB] at h
    exact ⟨h.1, _, rfl, Or.inr (Or.inl ⟨rfl, h.2⟩)⟩
  · simp only [Bool.and_eq_true, Bool.or_eq_true, Bool.not_eq_true', decide_eq_true_eq, lkB] at h
    exact ⟨h.1, _, rfl, Or.inr (Or.inr ⟨rfl, h.2⟩)⟩
  · cases h
theorem lkI_43 {oc : Nat} {ini : Bool} {rt nL pc len : Nat} {cst : Int32} {a b : Nat} {tl : List Nat} {x : Instr} (h : lkI oc ini rt nL pc len (43, cst, a, b, tl) x = true) : ∃ j, x = .anewarray j ∧ len = 3 ∧ lk2 CLL oc j = some a ∧ a ∈ RCL := by
  simp only [lkI] at h
  split at h
  · simp only [Bool.and_eq_true, Bool.or_eq_true, Bool.not_eq_true', decide_eq_true_eq, lkB] at h
    exact ⟨_, rfl, h.1.1, h.1.2, h.2⟩
  · cases h
theorem lkI_44 {oc : Nat} {ini : Bool} {rt nL pc len : Nat} {cst : Int32} {a b : Nat} {tl : List Nat} {x : Instr} (h : lkI oc ini rt nL pc len (44, cst, a, b, tl) x = true) : ∃ j, x = .new j ∧ len = 3 ∧ lk2 CLL oc j = some a ∧ b = fN a := by
  simp only [lkI] at h
  split at h
  · simp only [Bool.and_eq_true, Bool.or_eq_true, Bool.not_eq_true', decide_eq_true_eq, lkB] at h
    exact ⟨_, rfl, h.1.1, h.1.2, h.2⟩
  · cases h
theorem lkI_47 {oc : Nat} {ini : Bool} {rt nL pc len : Nat} {cst : Int32} {a b : Nat} {tl : List Nat} {x : Instr} (h : lkI oc ini rt nL pc len (47, cst, a, b, tl) x = true) : ∃ off, x = .goto off ∧ len = 3 ∧ (pc : Int) + off = (a : Int) := by
  simp only [lkI] at h
  split at h
  · simp only [Bool.and_eq_true, Bool.or_eq_true, Bool.not_eq_true', decide_eq_true_eq, lkB] at h
    exact ⟨_, rfl, h.1, h.2⟩
  · cases h
theorem lkI_48 {oc : Nat} {ini : Bool} {rt nL pc len : Nat} {cst : Int32} {a b : Nat} {tl : List Nat} {x : Instr} (h : lkI oc ini rt nL pc len (48, cst, a, b, tl) x = true) : ∃ j, x = .ldc j ∧ len = 2 ∧ lk2 SLL oc j = some a := by
  simp only [lkI] at h
  split at h
  · simp only [Bool.and_eq_true, Bool.or_eq_true, Bool.not_eq_true', decide_eq_true_eq, lkB] at h
    exact ⟨_, rfl, h.1, h.2⟩
  · cases h
theorem lkI_49 {oc : Nat} {ini : Bool} {rt nL pc len : Nat} {cst : Int32} {a b : Nat} {tl : List Nat} {x : Instr} (h : lkI oc ini rt nL pc len (49, cst, a, b, tl) x = true) : ∃ j, x = .invokestatic j ∧ len = 3 ∧ lk2 MLL oc j = some 1049 := by
  simp only [lkI] at h
  split at h
  · simp only [Bool.and_eq_true, Bool.or_eq_true, Bool.not_eq_true', decide_eq_true_eq, lkB] at h
    exact ⟨_, rfl, h.1, h.2⟩
  · cases h
theorem lkI_50 {oc : Nat} {ini : Bool} {rt nL pc len : Nat} {cst : Int32} {a b : Nat} {tl : List Nat} {x : Instr} (h : lkI oc ini rt nL pc len (50, cst, a, b, tl) x = true) : ∃ j, x = .invokestatic j ∧ len = 3 ∧ lk2 MLL oc j = some 1050 := by
  simp only [lkI] at h
  split at h
  · simp only [Bool.and_eq_true, Bool.or_eq_true, Bool.not_eq_true', decide_eq_true_eq, lkB] at h
    exact ⟨_, rfl, h.1, h.2⟩
  · cases h
theorem lkI_51 {oc : Nat} {ini : Bool} {rt nL pc len : Nat} {cst : Int32} {a b : Nat} {tl : List Nat} {x : Instr} (h : lkI oc ini rt nL pc len (51, cst, a, b, tl) x = true) : ∃ j, x = .invokestatic j ∧ len = 3 ∧ lk2 MLL oc j = some 1051 := by
  simp only [lkI] at h
  split at h
  · simp only [Bool.and_eq_true, Bool.or_eq_true, Bool.not_eq_true', decide_eq_true_eq, lkB] at h
    exact ⟨_, rfl, h.1, h.2⟩
  · cases h
theorem lkI_52 {oc : Nat} {ini : Bool} {rt nL pc len : Nat} {cst : Int32} {a b : Nat} {tl : List Nat} {x : Instr} (h : lkI oc ini rt nL pc len (52, cst, a, b, tl) x = true) : ∃ j, x = .invokespecial j ∧ len = 3 ∧ lk2 MLL oc j = some 1052 := by
  simp only [lkI] at h
  split at h
  · simp only [Bool.and_eq_true, Bool.or_eq_true, Bool.not_eq_true', decide_eq_true_eq, lkB] at h
    exact ⟨_, rfl, h.1, h.2⟩
  · cases h
theorem lkI_54 {oc : Nat} {ini : Bool} {rt nL pc len : Nat} {cst : Int32} {a b : Nat} {tl : List Nat} {x : Instr} (h : lkI oc ini rt nL pc len (54, cst, a, b, tl) x = true) : ∃ j, x = .invokevirtual j ∧ len = 3 ∧ lk2 MLL oc j = some 1054 := by
  simp only [lkI] at h
  split at h
  · simp only [Bool.and_eq_true, Bool.or_eq_true, Bool.not_eq_true', decide_eq_true_eq, lkB] at h
    exact ⟨_, rfl, h.1, h.2⟩
  · cases h
theorem lkI_55 {oc : Nat} {ini : Bool} {rt nL pc len : Nat} {cst : Int32} {a b : Nat} {tl : List Nat} {x : Instr} (h : lkI oc ini rt nL pc len (55, cst, a, b, tl) x = true) : ∃ j, x = .invokevirtual j ∧ len = 3 ∧ lk2 MLL oc j = some 1055 := by
  simp only [lkI] at h
  split at h
  · simp only [Bool.and_eq_true, Bool.or_eq_true, Bool.not_eq_true', decide_eq_true_eq, lkB] at h
    exact ⟨_, rfl, h.1, h.2⟩
  · cases h
theorem lkI_70 {oc : Nat} {ini : Bool} {rt nL pc len : Nat} {cst : Int32} {a b : Nat} {tl : List Nat} {x : Instr} (h : lkI oc ini rt nL pc len (70, cst, a, b, tl) x = true) : ∃ off, x = .if_icmp .eq off ∧ len = 3 ∧ (pc : Int) + off = (a : Int) := by
  simp only [lkI] at h
  split at h
  · simp only [Bool.and_eq_true, Bool.or_eq_true, Bool.not_eq_true', decide_eq_true_eq, lkB] at h
    exact ⟨_, rfl, h.1, h.2⟩
  · cases h
theorem lkI_80 {oc : Nat} {ini : Bool} {rt nL pc len : Nat} {cst : Int32} {a b : Nat} {tl : List Nat} {x : Instr} (h : lkI oc ini rt nL pc len (80, cst, a, b, tl) x = true) : ∃ off, x = .ifCond .eq off ∧ len = 3 ∧ (pc : Int) + off = (a : Int) := by
  simp only [lkI] at h
  split at h
  · simp only [Bool.and_eq_true, Bool.or_eq_true, Bool.not_eq_true', decide_eq_true_eq, lkB] at h
    exact ⟨_, rfl, h.1, h.2⟩
  · cases h
theorem lkI_71 {oc : Nat} {ini : Bool} {rt nL pc len : Nat} {cst : Int32} {a b : Nat} {tl : List Nat} {x : Instr} (h : lkI oc ini rt nL pc len (71, cst, a, b, tl) x = true) : ∃ off, x = .if_icmp .ne off ∧ len = 3 ∧ (pc : Int) + off = (a : Int) := by
  simp only [lkI] at h
  split at h
  · simp only [Bool.and_eq_true, Bool.or_eq_true, Bool.not_eq_true', decide_eq_true_eq, lkB] at h
    exact ⟨_, rfl, h.1, h.2⟩
  · cases h
theorem lkI_81 {oc : Nat} {ini : Bool} {rt nL pc len : Nat} {cst : Int32} {a b : Nat} {tl : List Nat} {x : Instr} (h : lkI oc ini rt nL pc len (81, cst, a, b, tl) x = true) : ∃ off, x = .ifCond .ne off ∧ len = 3 ∧ (pc : Int) + off = (a : Int) := by
  simp only [lkI] at h
  split at h
  · simp only [Bool.and_eq_true, Bool.or_eq_true, Bool.not_eq_true', decide_eq_true_eq, lkB] at h
    exact ⟨_, rfl, h.1, h.2⟩
  · cases h
theorem lkI_72 {oc : Nat} {ini : Bool} {rt nL pc len : Nat} {cst : Int32} {a b : Nat} {tl : List Nat} {x : Instr} (h : lkI oc ini rt nL pc len (72, cst, a, b, tl) x = true) : ∃ off, x = .if_icmp .lt off ∧ len = 3 ∧ (pc : Int) + off = (a : Int) := by
  simp only [lkI] at h
  split at h
  · simp only [Bool.and_eq_true, Bool.or_eq_true, Bool.not_eq_true', decide_eq_true_eq, lkB] at h
    exact ⟨_, rfl, h.1, h.2⟩
  · cases h
theorem lkI_82 {oc : Nat} {ini : Bool} {rt nL pc len : Nat} {cst : Int32} {a b : Nat} {tl : List Nat} {x : Instr} (h : lkI oc ini rt nL pc len (82, cst, a, b, tl) x = true) : ∃ off, x = .ifCond .lt off ∧ len = 3 ∧ (pc : Int) + off = (a : Int) := by
  simp only [lkI] at h
  split at h
  · simp only [Bool.and_eq_true, Bool.or_eq_true, Bool.not_eq_true', decide_eq_true_eq, lkB] at h
    exact ⟨_, rfl, h.1, h.2⟩
  · cases h
theorem lkI_73 {oc : Nat} {ini : Bool} {rt nL pc len : Nat} {cst : Int32} {a b : Nat} {tl : List Nat} {x : Instr} (h : lkI oc ini rt nL pc len (73, cst, a, b, tl) x = true) : ∃ off, x = .if_icmp .ge off ∧ len = 3 ∧ (pc : Int) + off = (a : Int) := by
  simp only [lkI] at h
  split at h
  · simp only [Bool.and_eq_true, Bool.or_eq_true, Bool.not_eq_true', decide_eq_true_eq, lkB] at h
    exact ⟨_, rfl, h.1, h.2⟩
  · cases h
theorem lkI_83 {oc : Nat} {ini : Bool} {rt nL pc len : Nat} {cst : Int32} {a b : Nat} {tl : List Nat} {x : Instr} (h : lkI oc ini rt nL pc len (83, cst, a, b, tl) x = true) : ∃ off, x = .ifCond .ge off ∧ len = 3 ∧ (pc : Int) + off = (a : Int) := by
  simp only [lkI] at h
  split at h
  · simp only [Bool.and_eq_true, Bool.or_eq_true, Bool.not_eq_true', decide_eq_true_eq, lkB] at h
    exact ⟨_, rfl, h.1, h.2⟩
  · cases h
theorem lkI_74 {oc : Nat} {ini : Bool} {rt nL pc len : Nat} {cst : Int32} {a b : Nat} {tl : List Nat} {x : Instr} (h : lkI oc ini rt nL pc len (74, cst, a, b, tl) x = true) : ∃ off, x = .if_icmp .gt off ∧ len = 3 ∧ (pc : Int) + off = (a : Int) := by
  simp only [lkI] at h
  split at h
  · simp only [Bool.and_eq_true, Bool.or_eq_true, Bool.not_eq_true', decide_eq_true_eq, lkB] at h
    exact ⟨_, rfl, h.1, h.2⟩
  · cases h
theorem lkI_84 {oc : Nat} {ini : Bool} {rt nL pc len : Nat} {cst : Int32} {a b : Nat} {tl : List Nat} {x : Instr} (h : lkI oc ini rt nL pc len (84, cst, a, b, tl) x = true) : ∃ off, x = .ifCond .gt off ∧ len = 3 ∧ (pc : Int) + off = (a : Int) := by
  simp only [lkI] at h
  split at h
  · simp only [Bool.and_eq_true, Bool.or_eq_true, Bool.not_eq_true', decide_eq_true_eq, lkB] at h
    exact ⟨_, rfl, h.1, h.2⟩
  · cases h
theorem lkI_75 {oc : Nat} {ini : Bool} {rt nL pc len : Nat} {cst : Int32} {a b : Nat} {tl : List Nat} {x : Instr} (h : lkI oc ini rt nL pc len (75, cst, a, b, tl) x = true) : ∃ off, x = .if_icmp .le off ∧ len = 3 ∧ (pc : Int) + off = (a : Int) := by
  simp only [lkI] at h
  split at h
  · simp only [Bool.and_eq_true, Bool.or_eq_true, Bool.not_eq_true', decide_eq_true_eq, lkB] at h
    exact ⟨_, rfl, h.1, h.2⟩
  · cases h
theorem lkI_85 {oc : Nat} {ini : Bool} {rt nL pc len : Nat} {cst : Int32} {a b : Nat} {tl : List Nat} {x : Instr} (h : lkI oc ini rt nL pc len (85, cst, a, b, tl) x = true) : ∃ off, x = .ifCond .le off ∧ len = 3 ∧ (pc : Int) + off = (a : Int) := by
  simp only [lkI] at h
  split at h
  · simp only [Bool.and_eq_true, Bool.or_eq_true, Bool.not_eq_true', decide_eq_true_eq, lkB] at h
    exact ⟨_, rfl, h.1, h.2⟩
  · cases h
theorem lkI_90 {oc : Nat} {ini : Bool} {rt nL pc len : Nat} {cst : Int32} {a b : Nat} {tl : List Nat} {x : Instr} (h : lkI oc ini rt nL pc len (90, cst, a, b, tl) x = true) : ∃ off, x = .ifnull off ∧ len = 3 ∧ (pc : Int) + off = (a : Int) := by
  simp only [lkI] at h
  split at h
  · simp only [Bool.and_eq_true, Bool.or_eq_true, Bool.not_eq_true', decide_eq_true_eq, lkB] at h
    exact ⟨_, rfl, h.1, h.2⟩
  · cases h
theorem lkI_91 {oc : Nat} {ini : Bool} {rt nL pc len : Nat} {cst : Int32} {a b : Nat} {tl : List Nat} {x : Instr} (h : lkI oc ini rt nL pc len (91, cst, a, b, tl) x = true) : ∃ off, x = .ifnonnull off ∧ len = 3 ∧ (pc : Int) + off = (a : Int) := by
  simp only [lkI] at h
  split at h
  · simp only [Bool.and_eq_true, Bool.or_eq_true, Bool.not_eq_true', decide_eq_true_eq, lkB] at h
    exact ⟨_, rfl, h.1, h.2⟩
  · cases h
theorem lkI_100 {oc : Nat} {ini : Bool} {rt nL pc len : Nat} {cst : Int32} {a b : Nat} {tl : List Nat} {x : Instr} (h : lkI oc ini rt nL pc len (100, cst, a, b, tl) x = true) : x = .ireturn ∧ len = 1 ∧ rt = a ∧ rt < 3 := by
  simp only [lkI] at h
  split at h
  · simp only [Bool.and_eq_true, Bool.or_eq_true, Bool.not_eq_true', decide_eq_true_eq, lkB] at h
    exact ⟨rfl, h.1.1, h.1.2, h.2⟩
  · cases h
theorem lkI_101 {oc : Nat} {ini : Bool} {rt nL pc len : Nat} {cst : Int32} {a b : Nat} {tl : List Nat} {x : Instr} (h : lkI oc ini rt nL pc len (101, cst, a, b, tl) x = true) : x = .areturn ∧ len = 1 ∧ rt = 3 := by
  simp only [lkI] at h
  split at h
  · simp only [Bool.and_eq_true, Bool.or_eq_true, Bool.not_eq_true', decide_eq_true_eq, lkB] at h
    exact ⟨rfl, h.1, h.2⟩
  · cases h
theorem lkI_102 {oc : Nat} {ini : Bool} {rt nL pc len : Nat} {cst : Int32} {a b : Nat} {tl : List Nat} {x : Instr} (h : lkI oc ini rt nL pc len (102, cst, a, b, tl) x = true) : x = .return_ ∧ len = 1 ∧ rt = 4 := by
  simp only [lkI] at h
  split at h
  · simp only [Bool.and_eq_true, Bool.or_eq_true, Bool.not_eq_true', decide_eq_true_eq, lkB] at h
    exact ⟨rfl, h.1, h.2⟩
  · cases h
theorem lkI_110 {oc : Nat} {ini : Bool} {rt nL pc len : Nat} {cst : Int32} {a b : Nat} {tl : List Nat} {x : Instr} (h : lkI oc ini rt nL pc len (110, cst, a, b, tl) x = true) : ∃ j, ((x = .invokevirtual j ∧ mK a = 0) ∨ (x = .invokestatic j ∧ mK a = 1) ∨ (x = .invokespecial j ∧ mK a = 2)) ∧ len = 3 ∧ lk2 MLL oc j = some a ∧ b = mA a := by
  simp only [lkI] at h
  split at h
  · simp only [Bool.and_eq_true, Bool.or_eq_true, Bool.not_eq_true', decide_eq_true_eq, lkB] at h
    exact ⟨_, Or.inl ⟨rfl, h.1.2⟩, h.1.1.1, h.1.1.2, h.2⟩
  · simp only [Bool.and_eq_true, Bool.or_eq_true, Bool.not_eq_true', decide_eq_true_eq, lkB] at h
    exact ⟨_, Or.inr (Or.inl ⟨rfl, h.1.2⟩), h.1.1.1, h.1.1.2, h.2⟩
  · simp only [Bool.and_eq_true, Bool.or_eq_true, Bool.not_eq_true', decide_eq_true_eq, lkB] at h
    exact ⟨_, Or.inr (Or.inr ⟨rfl, h.1.2⟩), h.1.1.1, h.1.1.2, h.2⟩
  · cases h
theorem lkI_120 {oc : Nat} {ini : Bool} {rt nL pc len : Nat} {cst : Int32} {a b : Nat} {tl : List Nat} {x : Instr} (h : lkI oc ini rt nL pc len (120, cst, a, b, tl) x = true) : ∃ df lo hi offs, x = .tableswitch df lo hi offs ∧ lo = 0 ∧ hi + 1 = (offs.size : Int) ∧ (pc : Int) + df = (a : Int) ∧ tl.length = offs.size ∧ (List.range offs.size).all (fun j => decide ((pc : Int) + offs.getD j 0 = ((tl.getD j 0 : Nat) : Int))) = true := by
  simp only [lkI] at h
  split at h
  · simp only [Bool.and_eq_true, Bool.or_eq_true, Bool.not_eq_true', decide_eq_true_eq, lkB] at h
    exact ⟨_, _, _, _, rfl, h.1.1.1.1, h.1.1.1.2, h.1.1.2, h.1.2, h.2⟩
  · cases h
