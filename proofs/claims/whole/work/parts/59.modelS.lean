/-! the reference: a line is rendered -/
def bdy (th : Int32 → Bool) (bf : Nat) (w : Ln) : Tx := if kn w = 1 then tgX 0 104 (48 + nI (lvl w)) ++ (ctx th w (lvl w) ++ tgX 1 104 (48 + nI (lvl w)))
  else if kn w = 2 then (if bf = 2 then [] else tgX 0 117 108) ++ (tgX 0 108 105 ++ (ctx th w 2 ++ tgX 1 108 105))
  else if kn w = 3 then (if bf = 3 then [32] else tgX 0 112 0) ++ ctx th w 0
  else []
theorem rnd_eq (th : Int32 → Bool) (bf : Nat) (w : Ln) : rnd th bf w = clo bf (kn w) ++ bdy th bf w := rfl
theorem kn_le (w : Ln) : kn w ≤ 3 := by
  unfold kn
  split
  · omega
  · split
    · omega
    · split <;> omega
theorem kn_1 {w : Ln} (h : kn w = 1) : 0 < w.length ∧ ch w 0 = 61 := by
  unfold kn at h
  split at h
  · cases h
  · split at h
    · rename_i a b; exact ⟨by omega, b⟩
    · split at h <;> cases h
theorem kn_2 {w : Ln} (h : kn w = 2) : 1 < w.length := by
  unfold kn at h
  split at h
  · cases h
  · split at h
    · cases h
    · split at h
      · rename_i q; exact q.1
      · cases h
theorem clo_n {bf now : Nat} (h2 : ¬ (bf = 2 ∧ now ≠ 2)) (h3 : ¬ (bf = 3 ∧ now ≠ 3)) : clo bf now = [] := by unfold clo; rw [if_neg h2, if_neg h3]; rfl
theorem clo_2 {now : Nat} (h : now ≠ 2) : clo 2 now = tgX 1 117 108 := by unfold clo; rw [if_pos ⟨rfl, h⟩, if_neg (fun z => absurd z.1 (by decide)), List.append_nil]
theorem clo_3 {now : Nat} (h : now ≠ 3) : clo 3 now = tgX 1 112 0 := by unfold clo; rw [if_neg (fun z => absurd z.1 (by decide)), if_pos ⟨rfl, h⟩]; rfl
section MODS
variable {d : Nat} {Q : Option AV → AH → Prop} {H : AH} {g : Nat → Nat → Int32} {x y z a b c : Int32} {T : Tx} {w : Ln} {R : List Rv} {bf : Nat}
theorem lm_r134 {g1 : Nat → Nat → Int32} {U : Tx} {u3 : AV} (hd : 3 ≤ d) (hF : Fix H) (hR : RRv g1 R) (hw : LW g1 w) (h2 : kn w = 2) (hs : SO g1 U) (k : ∀ g', SF g1 g' → SO g' (U ++ (ctx (thC R) w 2 ++ tgX 1 108 105)) → Q none (wi H g')) :
    wp d sc_Model_render 134 [vR 58, vI (nI bf), vI (nI (kn w)), u3] [] (wi H g1) Q := by
  have hl := kn_2 h2
  refine f_Model_render_134 hF (c_content (j := 2) hd hF hR hw (by omega) hs (fun g2 f2 s2 => f_Model_render_139 hF (c_tag (by omega) hF s2 (fun g3 f3 s3 => ?_))))
  rw [h2]
  refine f_Model_render_148 hF (fun _ => k g3 (f2.trans f3) (by rw [← List.append_assoc]; exact s3)) (fun q => absurd q (by decide)) (fun q => absurd q (by decide))
theorem lm_r2 {g1 : Nat → Nat → Int32} {U : Tx} {u3 : AV} (hd : 3 ≤ d) (hF : Fix H) (hR : RRv g1 R) (hw : LW g1 w) (h2 : kn w = 2) (hs : SO g1 U) (k : ∀ g', SF g1 g' → SO g' (U ++ (tgX 0 108 105 ++ (ctx (thC R) w 2 ++ tgX 1 108 105))) → Q none (wi H g')) :
    cwp d 161 [vR 58, vI 0, vI 108, vI 105] (wi H g1) (fun r1 H1 => wp d sc_Model_render 134 [vR 58, vI (nI bf), vI (nI (kn w)), u3] (r1.toList ++ []) H1 Q) :=
  c_tag (by omega) hF hs (fun _ f2 s2 => lm_r134 hd hF (hR.sf f2) (hw.sf f2) h2 s2 (fun g' f' s' => k g' (f2.trans f') (by rw [← List.append_assoc]; exact s')))
theorem lm_r1 {g1 : Nat → Nat → Int32} {U : Tx} (hd : 3 ≤ d) (hF : Fix H) (hR : RRv g1 R) (hw : LW g1 w) (h2 : kn w = 1) (hs : SO g1 U) (k : ∀ g', SF g1 g' → SO g' (U ++ (tgX 0 104 (48 + nI (lvl w)) ++ (ctx (thC R) w (lvl w) ++ tgX 1 104 (48 + nI (lvl w))))) → Q none (wi H g')) :
    wp d sc_Model_render 49 [vR 58, vI (nI bf), vI (nI (kn w)), vI 0] [] (wi H g1) Q := by
  obtain ⟨l0, c0⟩ := kn_1 h2
  have h40 := hw.1
  have fin : lvl w ≤ w.length → cwp d 161 [vR 58, vI 0, vI 104, vI (48 + nI (lvl w))] (wi H g1) (fun r1 H1 => wp d sc_Model_render 90 [vR 58, vI (nI bf), vI (nI (kn w)), vI (nI (lvl w))] (r1.toList ++ []) H1 Q) := fun hle => by
    refine c_tag (by omega) hF hs (fun g2 f2 s2 => f_Model_render_90 hF (c_content (j := lvl w) hd hF (hR.sf f2) (hw.sf f2) hle s2 (fun g3 f3 s3 => f_Model_render_95 hF (c_tag (by omega) hF s3 (fun g4 f4 s4 => ?_)))))
    rw [h2]
    refine f_Model_render_106 hF (fun _ _ => k g4 ((f2.trans f3).trans f4) (by rw [← List.append_assoc, ← List.append_assoc]; exact s4)) (fun _ q => absurd q (by decide)) (fun _ q => absurd q (by decide)) (fun q => absurd q (by decide)) (fun q => absurd q (by decide))
  have stp : ∀ v, v < 3 → v < w.length → ch w v = 61 → wp d sc_Model_render 49 [vR 58, vI (nI bf), vI (nI (kn w)), vI (nI (v + 1))] [] (wi H g1) Q → wp d sc_Model_render 49 [vR 58, vI (nI bf), vI (nI (kn w)), vI (nI v)] [] (wi H g1) Q := fun v h3 hl hc kk =>
    f_Model_render_49 hF (fun _ _ => vp_in_nI (by omega) (by decide)) (fun q => absurd q (by rw [show (3 : Int32) = nI 3 from rfl]; exact nI_ge h3 (by decide))) (fun _ q => absurd q (by rw [hw.2.1]; exact nI_ge hl (by omega))) (fun _ _ q => absurd (by rw [nI_clamp (by omega), hw.2.2 v hl]; exact hc) q) (fun _ _ _ => by rw [nI_1]; exact kk)
  have sto : ∀ v, v ≤ 3 → v ≤ w.length → v = lvl w → ¬ (v < 3 ∧ v < w.length ∧ ch w v = 61) → wp d sc_Model_render 49 [vR 58, vI (nI bf), vI (nI (kn w)), vI (nI v)] [] (wi H g1) Q := fun v h3 hl hv hno => by
    subst hv
    refine f_Model_render_49 hF (fun q q2 => vp_in_nI (by omega) (by decide)) (fun _ => fin hl) (fun _ _ => fin hl) (fun _ _ _ => fin hl) (fun q q2 q3 => absurd ?_ hno)
    rw [show (3 : Int32) = nI 3 from rfl, nI_leI (by decide) (by omega)] at q
    rw [hw.2.1, nI_leI (by omega) (by omega)] at q2
    rw [nI_clamp (by omega), hw.2.2 _ (by omega)] at q3
    exact ⟨by omega, by omega, q3⟩
  refine stp 0 (by decide) l0 c0 ?_
  by_cases c1 : 1 < w.length ∧ ch w 1 = 61
  · refine stp 1 (by decide) c1.1 c1.2 ?_
    by_cases c2 : 2 < w.length ∧ ch w 2 = 61
    · refine stp 2 (by decide) c2.1 c2.2 ?_
      exact sto 3 (by decide) (by omega) (by unfold lvl; rw [if_pos ⟨l0, c0⟩, if_pos c1, if_pos c2]) (fun z => by omega)
    · exact sto 2 (by decide) (by omega) (by unfold lvl; rw [if_pos ⟨l0, c0⟩, if_pos c1, if_neg c2]) (fun z => c2 z.2)
  · exact sto 1 (by decide) (by omega) (by unfold lvl; rw [if_pos ⟨l0, c0⟩, if_neg c1]) (fun z => c1 z.2)
theorem c_render (hd : 4 ≤ d) (hF : Fix H) (hbf : bf ≤ 3) (hR : RRv g R) (hw : LW g w) (h : SO g T) (k : ∀ g', SF g g' → SO g' (T ++ rnd (thC R) bf w) → Q none (wi H g')) : cwp d 165 [vR 58, vI (nI bf)] (wi H g) Q := by
  have hk := kn_le w
  have kb : ∀ g', SF g g' → SO g' (T ++ clo bf (kn w) ++ bdy (thC R) bf w) → Q none (wi H g') := fun g' f' s' => k g' f' (by rw [rnd_eq, ← List.append_assoc]; exact s')
  have eb2 : nI bf = 2 ↔ bf = 2 := by rw [show (2 : Int32) = nI 2 from rfl, nI_eq (by omega) (by decide)]
  have eb3 : nI bf = 3 ↔ bf = 3 := by rw [show (3 : Int32) = nI 3 from rfl, nI_eq (by omega) (by decide)]
  have ek1 : nI (kn w) = 1 ↔ kn w = 1 := by rw [show (1 : Int32) = nI 1 from rfl, nI_eq (by omega) (by decide)]
  have ek2 : nI (kn w) = 2 ↔ kn w = 2 := by rw [show (2 : Int32) = nI 2 from rfl, nI_eq (by omega) (by decide)]
  have ek3 : nI (kn w) = 3 ↔ kn w = 3 := by rw [show (3 : Int32) = nI 3 from rfl, nI_eq (by omega) (by decide)]
  have h0 : kn w ≠ 1 → kn w ≠ 2 → kn w ≠ 3 → ∀ g1, SF g g1 → SO g1 (T ++ clo bf (kn w)) → Q none (wi H g1) := fun a b c g1 f1 s1 => kb g1 f1 (by unfold bdy; rw [if_neg a, if_neg b, if_neg c, List.append_nil]; exact s1)
  have h1 : kn w = 1 → ∀ g1, SF g g1 → SO g1 (T ++ clo bf (kn w)) → wp (d - 1) sc_Model_render 49 [vR 58, vI (nI bf), vI (nI (kn w)), vI 0] [] (wi H g1) Q := fun a g1 f1 s1 =>
    lm_r1 (by omega) hF (hR.sf f1) (hw.sf f1) a s1 (fun g' f' s' => kb g' (f1.trans f') (by unfold bdy; rw [if_pos a]; exact s'))
  have h2b : kn w = 2 → bf = 2 → ∀ g1 u3, SF g g1 → SO g1 (T ++ clo bf (kn w)) → cwp (d - 1) 161 [vR 58, vI 0, vI 108, vI 105] (wi H g1) (fun r1 H1 => wp (d - 1) sc_Model_render 134 [vR 58, vI (nI bf), vI (nI (kn w)), u3] (r1.toList ++ []) H1 Q) := fun a b g1 u3 f1 s1 =>
    lm_r2 (by omega) hF (hR.sf f1) (hw.sf f1) a s1 (fun g' f' s' => kb g' (f1.trans f') (by unfold bdy; rw [if_neg (by omega), if_pos a, if_pos b]; exact s'))
  have h2a : kn w = 2 → bf ≠ 2 → ∀ g1 u3, SF g g1 → SO g1 (T ++ clo bf (kn w)) → cwp (d - 1) 161 [vR 58, vI 0, vI 117, vI 108] (wi H g1) (fun r1 H1 => wp (d - 1) sc_Model_render 125 [vR 58, vI (nI bf), vI (nI (kn w)), u3] (r1.toList ++ []) H1 Q) := fun a b g1 u3 f1 s1 =>
    c_tag (by omega) hF s1 (fun g2 f2 s2 => f_Model_render_125 hF (lm_r2 (by omega) hF (hR.sf (f1.trans f2)) (hw.sf (f1.trans f2)) a s2 (fun g' f' s' => kb g' ((f1.trans f2).trans f') (by unfold bdy; rw [if_neg (by omega), if_pos a, if_neg b, ← List.append_assoc]; exact s'))))
  have h3a : kn w = 3 → bf ≠ 3 → ∀ g1 u3, SF g g1 → SO g1 (T ++ clo bf (kn w)) → cwp (d - 1) 161 [vR 58, vI 0, vI 112, vI 0] (wi H g1) (fun r1 H1 => wp (d - 1) sc_Model_render 175 [vR 58, vI (nI bf), vI (nI (kn w)), u3] (r1.toList ++ []) H1 Q) := fun a b g1 u3 f1 s1 =>
    c_tag (by omega) hF s1 (fun g2 f2 s2 => f_Model_render_175 hF (c_content (j := 0) (by omega) hF (hR.sf (f1.trans f2)) (hw.sf (f1.trans f2)) (by omega) s2 (fun g' f' s' => f_Model_render_180 hF (kb g' ((f1.trans f2).trans f') (by unfold bdy; rw [if_neg (by omega), if_neg (by omega), if_pos a, if_neg b, ← List.append_assoc]; exact s')))))
  have h3b : kn w = 3 → bf = 3 → ∀ g1 u3, SF g g1 → SO g1 (T ++ clo bf (kn w)) → cwp (d - 1) 160 [vR 58, vI 32] (wi H g1) (fun r1 H1 => wp (d - 1) sc_Model_render 164 [vR 58, vI (nI bf), vI (nI (kn w)), u3] (r1.toList ++ []) H1 Q) := fun a b g1 u3 f1 s1 =>
    c_show1 (by omega) hF s1 (fun g2 f2 s2 => f_Model_render_164 hF (c_content (j := 0) (by omega) hF (hR.sf (f1.trans f2)) (hw.sf (f1.trans f2)) (by omega) s2 (fun g' f' s' => f_Model_render_180 hF (kb g' ((f1.trans f2).trans f') (by unfold bdy; rw [if_neg (by omega), if_neg (by omega), if_pos a, if_pos b, ← List.append_assoc]; exact s')))))
  have s0 : ¬ (bf = 2 ∧ kn w ≠ 2) → ¬ (bf = 3 ∧ kn w ≠ 3) → SO g (T ++ clo bf (kn w)) := fun a b => by rw [clo_n a b, List.append_nil]; exact h
  refine e_Model_render (by omega) (hF.c 58 31 rfl) (f_Model_render_0 hF (c_kind (by omega) hF hw ?_))
  refine f_Model_render_4 hF (fun b2 b3 k1 k2 k3 => ?_) (fun b2 b3 k1 k2 k3 => ?_) (fun b2 b3 k1 k2 => ?_) (fun b2 b3 k1 => ?_) (fun b2 b3 k3 k1 k2 => ?_) (fun b2 b3 k3 k1 k2 => ?_) (fun b2 b3 k3 k1 => ?_) (fun b2 b3 k3 => ?_) (fun b2 k2 b3 k1 => ?_) (fun b2 k2 b3 k1 => ?_) (fun b2 k2 b3 k3 k1 => ?_) (fun b2 k2 b3 k3 k1 => ?_) (fun b2 k2 b3 k3 => ?_) (fun b2 k2 => ?_)
  · rw [eb2] at b2; rw [eb3] at b3; rw [ek1] at k1; rw [ek2] at k2; rw [ek3] at k3
    exact h0 k1 k2 k3 g SF.rf (s0 (fun z => b2 z.1) (fun z => b3 z.1))
  · rw [eb2] at b2; rw [eb3] at b3; rw [ek3] at k3
    exact h3a k3 b3 g _ SF.rf (s0 (fun z => b2 z.1) (fun z => b3 z.1))
  · rw [eb2] at b2; rw [eb3] at b3; rw [ek2] at k2
    exact h2a k2 b2 g _ SF.rf (s0 (fun z => b2 z.1) (fun z => b3 z.1))
  · rw [eb2] at b2; rw [eb3] at b3; rw [ek1] at k1
    exact h1 k1 g SF.rf (s0 (fun z => b2 z.1) (fun z => b3 z.1))
  · rw [eb2] at b2; rw [eb3] at b3; rw [ek3] at k3
    exact h3b k3 b3 g _ SF.rf (s0 (fun z => b2 z.1) (fun z => z.2 k3))
  · rw [ek3] at k3; rw [ek2] at k2; omega
  · rw [ek3] at k3; rw [ek1] at k1; omega
  · rw [eb3] at b3; rw [ek3] at k3
    subst b3
    refine c_tag (by omega) hF h (fun g1 f1 s1 => ?_)
    rw [← clo_3 k3] at s1
    refine f_Model_render_42 hF (fun k1 k2 k3' => h0 (fun z => k1 (ek1.mpr z)) (fun z => k2 (ek2.mpr z)) k3 g1 f1 s1) (fun _ _ z => absurd (ek3.mp z) k3) (fun _ _ z => absurd (ek3.mp z) k3) (fun _ _ z => absurd z (by decide)) (fun _ z _ => h2a (ek2.mp z) (by decide) g1 _ f1 s1) (fun z => h1 (ek1.mp z) g1 f1 s1)
  · rw [eb2] at b2; rw [ek2] at k2
    exact h2b k2 b2 g _ SF.rf (s0 (fun z => z.2 k2) (fun z => by omega))
  · rw [ek2] at k2; rw [ek1] at k1; omega
  · rw [ek2] at k2; rw [ek3] at k3; omega
  · rw [ek2] at k2; rw [ek3] at k3; omega
  · rw [eb2] at b2; rw [eb3] at b3; omega
  · rw [eb2] at b2; rw [ek2] at k2
    subst b2
    refine c_tag (by omega) hF h (fun g1 f1 s1 => ?_)
    rw [← clo_2 k2] at s1
    refine f_Model_render_24 hF (fun _ k1 _ k3 => h0 (fun z => k1 (ek1.mpr z)) k2 (fun z => k3 (ek3.mpr z)) g1 f1 s1) (fun _ _ _ z => h3a (ek3.mp z) (by decide) g1 _ f1 s1) (fun _ _ z => absurd (ek2.mp z) k2) (fun _ _ z => absurd (ek2.mp z) k2) (fun _ z => h1 (ek1.mp z) g1 f1 s1) (fun z => absurd z (by decide)) (fun z => absurd z (by decide)) (fun z => absurd z (by decide)) (fun z => absurd z (by decide)) (fun z => absurd z (by decide))
end MODS
