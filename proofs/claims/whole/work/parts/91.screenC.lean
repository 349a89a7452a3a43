/-! the class: a line is added to the screen -/
def F9 (g g' : Nat → Nat → Int32) : Prop := (∀ a, a ≠ 56 → a ≠ 57 → g' a = g a) ∧ ∀ j, j ≠ 1 → j ≠ 2 → g' 56 j = g 56 j
theorem F9.rf {g : Nat → Nat → Int32} : F9 g g := ⟨fun _ _ _ => rfl, fun _ _ _ => rfl⟩
theorem F9.trans {g g' g'' : Nat → Nat → Int32} (h : F9 g g') (h2 : F9 g' g'') : F9 g g'' := ⟨fun a q1 q2 => by rw [h2.1 a q1 q2, h.1 a q1 q2], fun j hj hk => by rw [h2.2 j hj hk, h.2 j hj hk]⟩
theorem F8.f9 {g g' : Nat → Nat → Int32} (h : F8 g g') : F9 g g' := ⟨h.1, fun j a _ => h.2 j a⟩
theorem F9.b {g : Nat → Nat → Int32} {v : Int32} : F9 g (sm_u2 g 56 2 v) := ⟨fun _ q _ => u2_na q, fun _ _ q => u2_ne (Or.inr q)⟩
theorem S8.b {g : Nat → Nat → Int32} {T : Tx} {v : Int32} (h : S8 g T) : S8 (sm_u2 g 56 2 v) T := ⟨by rw [u2_ne (Or.inr (by decide))]; exact h.1, fun j hj => by rw [u2_ne (Or.inl (by decide))]; exact h.2.1 j hj, h.2.2⟩
theorem LC.f9 {g g' : Nat → Nat → Int32} {w : Ln} (h : LC g w) (hf : F9 g g') : LC g' w := ⟨h.1, h.2.1, by rw [hf.1 54 (by decide) (by decide)]; exact h.2.2.1, fun j hj => by rw [hf.1 55 (by decide) (by decide)]; exact h.2.2.2 j hj⟩
theorem blk_1 {bf : Nat} (h : bf ≤ 3) : blk bf = 1 ↔ bf = 2 := by
  have : bf = 0 ∨ bf = 1 ∨ bf = 2 ∨ bf = 3 := by omega
  rcases this with rfl | rfl | rfl | rfl <;> decide
theorem blk_2 {bf : Nat} (h : bf ≤ 3) : blk bf = 2 ↔ bf = 3 := by
  have : bf = 0 ∨ bf = 1 ∨ bf = 2 ∨ bf = 3 := by omega
  rcases this with rfl | rfl | rfl | rfl <;> decide
theorem tg_2 : tgX 1 108 105 = TXT 2 := by decide
theorem tg_3 : tgX 1 117 108 = TXT 3 := by decide
theorem tg_4 : tgX 1 112 0 = TXT 4 := by decide
theorem tg_5 : tgX 0 117 108 = TXT 5 := by decide
theorem tg_6 : tgX 0 108 105 = TXT 6 := by decide
theorem tg_7 : tgX 0 112 0 = TXT 7 := by decide
theorem clo_20 {bf : Nat} (h : ¬ bf = 2) : clo bf 2 = clo bf 0 := by
  by_cases h3 : bf = 3
  · subst h3; rw [clo_3 (by decide), clo_3 (by decide)]
  · rw [clo_n (fun z => h z.1) (fun z => h3 z.1), clo_n (fun z => h z.1) (fun z => h3 z.1)]
theorem clo_30 {bf : Nat} (h : ¬ bf = 3) : clo bf 3 = clo bf 0 := by
  by_cases h3 : bf = 2
  · subst h3; rw [clo_2 (by decide), clo_2 (by decide)]
  · rw [clo_n (fun z => h3 z.1) (fun z => h z.1), clo_n (fun z => h3 z.1) (fun z => h z.1)]
theorem clo_10 {bf : Nat} : clo bf 1 = clo bf 0 := by
  by_cases h2 : bf = 2
  · subst h2; rw [clo_2 (by decide), clo_2 (by decide)]
  · by_cases h3 : bf = 3
    · subst h3; rw [clo_3 (by decide), clo_3 (by decide)]
    · rw [clo_n (fun z => h2 z.1) (fun z => h3 z.1), clo_n (fun z => h2 z.1) (fun z => h3 z.1)]
theorem lvl_r (w : Ln) : lvl w ≤ 3 ∧ lvl w ≤ w.length ∧ (1 ≤ lvl w ↔ 0 < w.length ∧ ch w 0 = 61) := by
  unfold lvl
  split
  · rename_i q
    have q1 := q.1
    refine ⟨?_, ?_, fun _ => q, fun _ => ?_⟩
    · split
      · split <;> omega
      · omega
    · split
      · rename_i q2
        have := q2.1
        split
        · rename_i q3
          have := q3.1
          omega
        · omega
      · omega
    · split
      · split <;> omega
      · omega
  · rename_i q
    exact ⟨by omega, by omega, fun z => absurd z (by decide), fun z => absurd z q⟩
section SCRC
variable {d : Nat} {Q : Option AV → AH → Prop} {H : AH} {g g' : Nat → Nat → Int32} {x c : Int32} {w : Ln} {T : Tx} {R : List Rv} {bf : Nat}
theorem x_endBlock (hd : 2 ≤ d) (hF : Fix H) (hK : KT H) (hb : bf ≤ 3) (hB : g 56 2 = blk bf) (h : S8 g T) (k : ∀ g', F9 g g' → g' 56 2 = 0 → S8 g' (T ++ clo bf 0) → Q none (wi H g')) : cwp d 49 [vR 56] (wi H g) Q := by
  have fin : ∀ g1, F8 g g1 → S8 g1 (T ++ clo bf 0) → Q none (wi H (sm_u2 g1 56 2 0)) := fun g1 f1 s1 => k _ (f1.f9.trans F9.b) u2_self s1.b
  refine e_Screen_endBlock (by omega) (hF.c 56 26 rfl) (f_Screen_endBlock_0 hF (fun q q2 => ?_) (fun q q2 => ?_) (fun q => ?_))
  · rw [hB, blk_1 hb] at q
    rw [hB, blk_2 hb] at q2
    exact fin g F8.rf (by rw [clo_n (fun z => q z.1) (fun z => q2 z.1), List.append_nil]; exact h)
  · rw [hB, blk_2 hb] at q2
    subst q2
    exact x_write (j := 4) (by omega) hF hK (by decide) h (fun g1 f1 s1 => f_Screen_endBlock_31 hF (fin g1 f1 (by rw [clo_3 (by decide), tg_4]; exact s1)))
  · rw [hB, blk_1 hb] at q
    subst q
    exact x_write (j := 3) (by omega) hF hK (by decide) h (fun g1 f1 s1 => f_Screen_endBlock_14 hF (fin g1 f1 (by rw [clo_2 (by decide), tg_3]; exact s1)))
theorem x_headMark {v j : Nat} (hd : 2 ≤ d) (hF : Fix H) (hK : KT H) (hv : 1 ≤ v) (hv3 : v ≤ 3) (hj : j < 2) (h : S8 g T) (k : ∀ g', F8 g g' → S8 g' (T ++ tgX (nI j) 104 (48 + nI v)) → Q none (wi H g')) : cwp d 50 [vR 56, vR (2 + j), vI (nI v)] (wi H g) Q := by
  have hv' : v = 1 ∨ v = 2 ∨ v = 3 := by omega
  have hj' : j = 0 ∨ j = 1 := by omega
  have e1 : ((((48 : Int32) + nI v).toUInt32 % 65536).toInt32) = 48 + nI v := by rcases hv' with rfl | rfl | rfl <;> decide
  have e2 : tgX (nI j) 104 (48 + nI v) = TXT j ++ ([48 + nI v] ++ [62]) := by rcases hv' with rfl | rfl | rfl <;> rcases hj' with rfl | rfl <;> decide
  have o : okc (48 + nI v) := ⟨48 + v, by omega, nI_add 48 v⟩
  refine e_Screen_writeHeadingMark (by omega) (hF.c 56 26 rfl) (f_Screen_writeHeadingMark_0 hF (x_write (by omega) hF hK (by omega) h (fun g1 f1 s1 => f_Screen_writeHeadingMark_5 hF ?_)))
  rw [e1]
  refine x_wc (by omega) hF s1 o (fun g2 f2 s2 => f_Screen_writeHeadingMark_14 hF (x_wc (by omega) hF s2 ⟨62, by decide, rfl⟩ (fun g3 f3 s3 => f_Screen_writeHeadingMark_20 hF (k g3 ((f1.trans f2).trans f3) ?_))))
  rw [e2, ← List.append_assoc, ← List.append_assoc]
  exact s3
theorem x_beginItem (hd : 3 ≤ d) (hF : Fix H) (hK : KT H) (hb : bf ≤ 3) (hB : g 56 2 = blk bf) (h : S8 g T) (k : ∀ g', F9 g g' → g' 56 2 = 1 → S8 g' (T ++ clo bf 2 ++ ((if bf = 2 then [] else tgX 0 117 108) ++ tgX 0 108 105)) → Q none (wi H g')) : cwp d 51 [vR 56] (wi H g) Q := by
  refine e_Screen_beginItem (by omega) (hF.c 56 26 rfl) (f_Screen_beginItem_0 hF (fun q => ?_) (fun q => ?_))
  · have q1 := q
    rw [hB, blk_1 hb] at q
    subst q
    refine x_write (j := 6) (by omega) hF hK (by decide) h (fun g1 f1 s1 => f_Screen_beginItem_29 hF (k g1 f1.f9 (by rw [f1.2 2 (by decide)]; exact q1) ?_))
    rw [clo_n (fun z => z.2 rfl) (fun z => absurd z.1 (by decide)), if_pos rfl, List.append_nil, List.nil_append, tg_6]
    exact s1
  · rw [hB, blk_1 hb] at q
    refine x_endBlock (by omega) hF hK hb hB h (fun g1 f1 b1 s1 => f_Screen_beginItem_12 hF (x_write (j := 5) (by omega) hF hK (by decide) s1 (fun g2 f2 s2 => f_Screen_beginItem_18 hF (x_write (j := 6) (by omega) hF hK (by decide) s2.b (fun g3 f3 s3 => f_Screen_beginItem_29 hF (k g3 (((f1.trans f2.f9).trans F9.b).trans f3.f9) (by rw [f3.2 2 (by decide), u2_self]) ?_))))))
    rw [if_neg q, clo_20 q, tg_5, tg_6, ← List.append_assoc]
    exact s3
theorem x_beginPlain (hd : 3 ≤ d) (hF : Fix H) (hK : KT H) (hb : bf ≤ 3) (hB : g 56 2 = blk bf) (h : S8 g T) (k : ∀ g', F9 g g' → g' 56 2 = 2 → S8 g' (T ++ clo bf 3 ++ (if bf = 3 then [32] else tgX 0 112 0)) → Q none (wi H g')) : cwp d 52 [vR 56] (wi H g) Q := by
  refine e_Screen_beginPlain (by omega) (hF.c 56 26 rfl) (f_Screen_beginPlain_0 hF (fun q => ?_) (fun q => ?_))
  · rw [hB, blk_2 hb] at q
    refine x_endBlock (by omega) hF hK hb hB h (fun g1 f1 b1 s1 => f_Screen_beginPlain_21 hF (x_write (j := 7) (by omega) hF hK (by decide) s1 (fun g2 f2 s2 => f_Screen_beginPlain_27 hF (k _ ((f1.trans f2.f9).trans F9.b) u2_self ?_))))
    rw [if_neg q, clo_30 q, tg_7]
    exact s2.b
  · have q1 := q
    rw [hB, blk_2 hb] at q
    subst q
    refine x_wc (by omega) hF h ⟨32, by decide, rfl⟩ (fun g1 f1 s1 => f_Screen_beginPlain_14 hF (k g1 f1.f9 (by rw [f1.2 2 (by decide)]; exact q1) ?_))
    rw [clo_n (fun z => absurd z.1 (by decide)) (fun z => z.2 rfl), if_pos rfl, List.append_nil]
    exact s1
theorem x_add (hd : 6 ≤ d) (hF : Fix H) (hK : KT H) (hM : g 56 3 = MK (thB R)) (hw : LC g w) (hb : bf ≤ 3) (hB : g 56 2 = blk bf) (h : S8 g T) (k : ∀ g', F9 g g' → g' 56 2 = blk (kn w) → S8 g' (T ++ rnd (thC R) bf w) → Q none (wi H g')) : cwp d 48 [vR 56, vR 54] (wi H g) Q := by
  have h40 := hw.1
  obtain ⟨l3, ll, lp⟩ := lvl_r w
  have e0 : g 54 1 = 0 ↔ w.length = 0 := by rw [hw.2.2.1, show (0 : Int32) = nI 0 from rfl, nI_eq (by omega) (by decide)]
  have eL : nI (lvl w) ≤ 0 ↔ lvl w = 0 := by rw [show (0 : Int32) = nI 0 from rfl, nI_leI (by omega) (by decide)]; omega
  have m : ∀ g1, F9 g g1 → g1 56 3 = MK (thB R) := fun g1 f => by rw [f.2 3 (by decide) (by decide)]; exact hM
  refine e_Screen_add (by omega) (hF.c 56 26 rfl) (f_Screen_add_0 hF (x_heading (by omega) hF hw ?_))
  refine f_Screen_add_4 (by omega) hF (hF.c 54 21 rfl) (fun q q2 => ?_) (fun q q2 => ?_) (fun q => ?_)
  · rw [e0] at q
    rw [eL] at q2
    have n1 : ¬ ch w 0 = 61 := fun z => by
      have := lp.mpr ⟨by omega, z⟩
      omega
    refine x_isItem (by omega) hF hw (fun r hr => ?_)
    rcases hr with ⟨hr, rfl⟩ | ⟨hr, rfl⟩
    · have ek : kn w = 2 := by unfold kn; rw [if_neg q, if_neg n1, if_pos hr]
      have hr1 := hr.1
      refine f_Screen_add_54 hF (fun z => absurd z (by decide)) (fun _ => ?_)
      refine x_beginItem (by omega) hF hK hb hB h (fun g1 f1 b1 s1 => f_Screen_add_61 hF (x_addContent (j := 2) (by omega) hF hK (m g1 f1) (hw.f9 f1) (by omega) s1 (fun g2 f2 s2 => f_Screen_add_67 hF (x_write (j := 2) (by omega) hF hK (by decide) s2 (fun g3 f3 s3 => f_Screen_add_73 hF (k g3 ((f1.trans f2.f9).trans f3.f9) (by rw [f3.2 2 (by decide), f2.2 2 (by decide), b1, ek]; rfl) ?_))))))
      have e : T ++ rnd (thC R) bf w = T ++ clo bf 2 ++ ((if bf = 2 then [] else tgX 0 117 108) ++ tgX 0 108 105) ++ ctx (thC R) w 2 ++ TXT 2 := by
        rw [rnd_eq, ek]
        unfold bdy
        rw [if_neg (by omega), if_pos ek, tg_2]
        simp only [List.append_assoc]
      rw [e]
      exact s3
    · have ek : kn w = 3 := by unfold kn; rw [if_neg q, if_neg n1, if_neg hr]
      refine f_Screen_add_54 hF (fun _ => ?_) (fun z => absurd rfl z)
      refine x_beginPlain (by omega) hF hK hb hB h (fun g1 f1 b1 s1 => f_Screen_add_80 hF (x_addContent (j := 0) (by omega) hF hK (m g1 f1) (hw.f9 f1) (by omega) s1 (fun g2 f2 s2 => f_Screen_add_86 hF (k g2 (f1.trans f2.f9) (by rw [f2.2 2 (by decide), b1, ek]; rfl) ?_))))
      have e : T ++ rnd (thC R) bf w = T ++ clo bf 3 ++ (if bf = 3 then [32] else tgX 0 112 0) ++ ctx (thC R) w 0 := by
        rw [rnd_eq, ek]
        unfold bdy
        rw [if_neg (by omega), if_neg (by omega), if_pos ek]
        simp only [List.append_assoc]
      rw [e]
      exact s2
  · rw [e0] at q
    rw [eL] at q2
    obtain ⟨p1, p2⟩ := lp.mp (by omega)
    have ek : kn w = 1 := by unfold kn; rw [if_neg q, if_pos p2]
    refine x_endBlock (by omega) hF hK hb hB h (fun g1 f1 b1 s1 => f_Screen_add_27 hF (x_headMark (j := 0) (by omega) hF hK (by omega) l3 (by decide) s1 (fun g2 f2 s2 => f_Screen_add_34 hF (x_addContent (by omega) hF hK (m g2 (f1.trans f2.f9)) (hw.f9 (f1.trans f2.f9)) ll s2 (fun g3 f3 s3 => f_Screen_add_40 hF (x_headMark (j := 1) (by omega) hF hK (by omega) l3 (by decide) s3 (fun g4 f4 s4 => f_Screen_add_47 hF (k g4 (((f1.trans f2.f9).trans f3.f9).trans f4.f9) (by rw [f4.2 2 (by decide), f3.2 2 (by decide), f2.2 2 (by decide), b1, ek]; rfl) ?_))))))))
    have e : T ++ rnd (thC R) bf w = T ++ clo bf 0 ++ tgX (nI 0) 104 (48 + nI (lvl w)) ++ ctx (thC R) w (lvl w) ++ tgX (nI 1) 104 (48 + nI (lvl w)) := by
      rw [rnd_eq, ek, clo_10]
      unfold bdy
      rw [if_pos ek, show nI 0 = (0 : Int32) from rfl, show nI 1 = (1 : Int32) from rfl]
      simp only [List.append_assoc]
    rw [e]
    exact s4
  · rw [e0] at q
    have ek : kn w = 0 := by unfold kn; rw [if_pos q]
    refine x_endBlock (by omega) hF hK hb hB h (fun g1 f1 b1 s1 => f_Screen_add_16 hF (k g1 f1 (by rw [b1, ek]; rfl) ?_))
    have e : T ++ rnd (thC R) bf w = T ++ clo bf 0 := by
      rw [rnd_eq, ek]
      unfold bdy
      rw [if_neg (by omega), if_neg (by omega), if_neg (by omega), List.append_nil]
    rw [e]
    exact s1
end SCRC
