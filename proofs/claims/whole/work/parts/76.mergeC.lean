/-! the class: merging begins -/
def mH (H : AH) (to ta tb : Nat) : AH := sr (sr (sr H 33 0 to) 34 0 ta) 35 0 tb
/-- cells that merging writes -/
def XG (g g' : Nat → Nat → Int32) : Prop := ∀ a, a ≠ 28 → ¬ (30 ≤ a ∧ a ≤ 38) → g' a = g a
section MRGC
variable {d : Nat} {Q : Option AV → AH → Prop} {H : AH} {g : Nat → Nat → Int32} {lo la lb : Tx} {to ta tb : Nat}
theorem mH_fix (hF : Fix H) : Fix (mH H to ta tb) := fix_sr (fix_sr (fix_sr hF rfl) rfl) rfl
theorem ne3 {t s : Nat} (hL : TL H t) (hs : (kd H s).1 = 27) : t ≠ s := fun e => by
  have := hL.1.1
  rw [e, hs] at this
  simp at this
theorem mH_tl {t : Nat} (hF : Fix H) (hL : TL H t) : TL (mH H to ta tb) t := tl_sr (tl_sr (tl_sr hL (ne3 hL (hF.c 33 27 rfl))) (ne3 hL (hF.c 34 27 rfl))) (ne3 hL (hF.c 35 27 rfl))
theorem mH_tx {t : Nat} {l : Tx} (hF : Fix H) (hL : TL H t) (h : TX H g t l) : TX (mH H to ta tb) g t l := tx_sr (tx_sr (tx_sr h (ne3 hL (hF.c 33 27 rfl))) (ne3 hL (hF.c 34 27 rfl))) (ne3 hL (hF.c 35 27 rfl))
theorem mH_r : gr (mH H to ta tb) 33 0 = to ∧ gr (mH H to ta tb) 34 0 = ta ∧ gr (mH H to ta tb) 35 0 = tb := by
  unfold mH
  refine ⟨?_, ?_, ?_⟩
  · rw [sr_gr (by decide), sr_gr (by decide), gr_sr, if_pos ⟨rfl, rfl⟩]
  · rw [sr_gr (by decide), gr_sr, if_pos ⟨rfl, rfl⟩]
  · rw [gr_sr, if_pos ⟨rfl, rfl⟩]
theorem x_spanBegin {s t : Nat} (hd : 1 ≤ d) (hs : (kd H s).1 = 27) (k : Q none (wi (sr H s 0 t) (sm_u2 (sm_u2 g s 1 0) s 2 0))) : cwp d 59 [vR s, vR t] (wi H g) Q := e_Span_begin hd hs (t_Span_begin_0 hs k)
theorem x_merge {l36 : Tx} (hd : 7 ≤ d) (hF : Fix H) (Lo : TL H to) (La : TL H ta) (Lb : TL H tb) (no : to ≠ 36) (na : ta ≠ 36) (nb : tb ≠ 36) (Xo : TX H g to lo) (Xa : TX H g ta la) (Xb : TX H g tb lb) (X36 : TX H g 36 l36)
    (kc : mrgL lo la lb = none → ∀ g' l', XG g g' → TX (mH H to ta tb) g' 36 l' → Q (some (vI (-2))) (wi (mH H to ta tb) g'))
    (kn : ∀ ls g', mrgL lo la lb = some ls → XG g g' → TX (mH H to ta tb) g' 36 ((em false ls).take 40) → Q (some (vI (if 40 < (em false ls).length then -3 else 0))) (wi (mH H to ta tb) g')) : cwp d 30 [vR 30, vR to, vR ta, vR tb] (wi H g) Q := by
  have A31 : kd H 31 = (1, 41) := hF.2.1 31 _ rfl
  have A32 : kd H 32 = (1, 41) := hF.2.1 32 _ rfl
  have L36 := hF.t36
  refine e_Merger_merge (by omega) (hF.c 30 23 rfl) (f_Merger_merge_0 hF (e_Merger_begin (by omega) (hF.c 30 23 rfl) (f_Merger_begin_0 hF ?_)))
  refine x_match (by omega) hF A31 Lo.1 Xo La.1 Xa (fun g1 w1 f1 => f_Merger_begin_13 hF ?_)
  have r1 := o2A hF A31 f1
  refine x_match (by omega) hF A32 Lo.1 (Xo.rf Lo.1 r1) Lb.1 (Xb.rf Lb.1 r1) (fun g2 w2 f2 => f_Merger_begin_26 hF ?_)
  have r2 := o2A hF A32 f2
  have fx1 : Fix (sr H 33 0 to) := fix_sr hF rfl
  have fx2 : Fix (sr (sr H 33 0 to) 34 0 ta) := fix_sr fx1 rfl
  have fx3 : Fix (mH H to ta tb) := mH_fix hF
  refine x_spanBegin (by omega) (hF.c 33 27 rfl) (f_Merger_begin_34 fx1 ?_)
  refine x_spanBegin (by omega) (fx1.c 34 27 rfl) (f_Merger_begin_42 fx2 ?_)
  refine x_spanBegin (by omega) (fx2.c 35 27 rfl) (f_Merger_begin_50 fx3 ?_)
  generalize hg3 : sm_u2 (sm_u2 (sm_u2 (sm_u2 (sm_u2 (sm_u2 g2 33 1 0) 33 2 0) 34 1 0) 34 2 0) 35 1 0) 35 2 0 = g3
  have e3 : ∀ a, a ≠ 33 → a ≠ 34 → a ≠ 35 → g3 a = g2 a := fun a h1 h2 h3 => by rw [← hg3, u2_na h3, u2_na h3, u2_na h2, u2_na h2, u2_na h1, u2_na h1]
  have p33 : g3 33 1 = nI 0 ∧ g3 33 2 = nI 0 := by
    rw [← hg3]
    exact ⟨by rw [u2_na (by decide), u2_na (by decide), u2_na (by decide), u2_na (by decide), u2_ne (Or.inr (by decide)), u2_self]; rfl, by rw [u2_na (by decide), u2_na (by decide), u2_na (by decide), u2_na (by decide), u2_self]; rfl⟩
  have p34 : g3 34 1 = nI 0 ∧ g3 34 2 = nI 0 := by
    rw [← hg3]
    exact ⟨by rw [u2_na (by decide), u2_na (by decide), u2_ne (Or.inr (by decide)), u2_self]; rfl, by rw [u2_na (by decide), u2_na (by decide), u2_self]; rfl⟩
  have p35 : g3 35 1 = nI 0 ∧ g3 35 2 = nI 0 := by
    rw [← hg3]
    exact ⟨by rw [u2_ne (Or.inr (by decide)), u2_self]; rfl, by rw [u2_self]; rfl⟩
  clear hg3
  have all : ∀ a, a ≠ 28 → a ≠ 31 → a ≠ 32 → a ≠ 33 → a ≠ 34 → a ≠ 35 → g3 a = g a := fun a h1 h2 h3 h4 h5 h6 => by rw [e3 a h4 h5 h6, f2 a h1 h3, f1 a h1 h2]
  have txt : ∀ t l, TL H t → TX H g t l → TX (mH H to ta tb) g3 t l := fun t l hL hX => by
    have h2 := mH_tx (to := to) (ta := ta) (tb := tb) hF hL ((hX.rf hL.1 r1).rf hL.1 r2)
    have c : ∀ s, (kd H s).1 = 27 → ∀ a, a ≤ 2 → t + a ≠ s := fun s hs => hL.nc (by rw [hs]; decide) (by rw [hs]; decide) (by rw [hs]; decide)
    have z : ∀ a, a ≤ 2 → g3 (t + a) = g2 (t + a) := fun a ha => e3 _ (c 33 (hF.c 33 27 rfl) a ha) (c 34 (hF.c 34 27 rfl) a ha) (c 35 (hF.c 35 27 rfl) a ha)
    exact h2.of (mH_tl hF hL) (z 0 (by decide)) (z 1 (by decide)) (z 2 (by decide))
  refine x_makeEmpty (by omega) (mH_tl hF L36).1 (txt 36 _ L36 X36) (fun g4 X4 f4 => f_Merger_begin_57 fx3 (f_Merger_merge_7 fx3 ?_))
  have L36' : TL (mH H to ta tb) 36 := mH_tl hF L36
  have f4 : ∀ a, a ≠ 36 → a ≠ 37 → a ≠ 38 → g4 a = g3 a := fun a h1 h2 h3 => f4 a h1 (fun e => h2 (e.trans L36'.2.1)) (fun e => h3 (e.trans L36'.2.2))
  generalize hg5 : sm_u2 (sm_u2 g4 30 7 0) 30 8 0 = g5
  have e5 : ∀ a, a ≠ 30 → g5 a = g4 a := fun a h1 => by rw [← hg5, u2_na h1, u2_na h1]
  have m5 : MG (mH H to ta tb) g5 false [] := by
    refine ⟨X4.of L36' (e5 36 (by decide)) (e5 37 (by decide)) (e5 38 (by decide)), ?_, ?_⟩
    · rw [← hg5, u2_self]; rfl
    · rw [← hg5, u2_ne (Or.inr (by decide)), u2_self]; rfl
  clear hg5
  have x35 : XS g3 g5 := fun a a1 _ _ _ a5 a6 a7 => by rw [e5 a a1, f4 a a5 a6 a7]
  have fr5 : ∀ a, a ≠ 28 → ¬ (30 ≤ a ∧ a ≤ 38) → g5 a = g a := fun a h1 h2 => by rw [x35 a (by omega) (by omega) (by omega) (by omega) (by omega) (by omega) (by omega), all a h1 (by omega) (by omega) (by omega) (by omega) (by omega)]
  have sp : ∀ s t, s = 33 ∨ s = 34 ∨ s = 35 → gr (mH H to ta tb) s 0 = t → (g3 s 1 = nI 0 ∧ g3 s 2 = nI 0) → SP (mH H to ta tb) g5 s t 0 0 := fun s t hs hr hp => by
    have e : g5 s = g3 s := by rw [e5 s (by omega), f4 s (by omega) (by omega) (by omega)]
    exact ⟨by rcases hs with rfl | rfl | rfl <;> exact fx3.c _ 27 rfl, hr, by rw [e]; exact hp.1, by rw [e]; exact hp.2⟩
  obtain ⟨ro, ra, rb⟩ := mH_r (H := H) (to := to) (ta := ta) (tb := tb)
  have Lo' : TL (mH H to ta tb) to := mH_tl hF Lo
  have La' : TL (mH H to ta tb) ta := mH_tl hF La
  have Lb' : TL (mH H to ta tb) tb := mH_tl hF Lb
  have fin : ∀ g', XS g5 g' → XG g g' := fun g' hx a h1 h2 => by rw [hx a (by omega) (by omega) (by omega) (by omega) (by omega) (by omega) (by omega), fr5 a h1 h2]
  refine lm_merge (F := mrgL lo la lb) (d := d - 1) (by omega) fx3 ro ra rb Lo' La' Lb' no na nb ((txt to _ Lo Xo).xs fx3 Lo' no x35) ((txt ta _ La Xa).xs fx3 La' na x35) ((txt tb _ Lb Xb).xs fx3 Lb' nb x35) (fun i hi => ?_) (fun i hi => ?_) (fun hn g' b T hx hm => kc hn g' _ (fin g' hx) hm.1) (fun ls g' hs hx hm => kn ls g' hs (fin g' hx) hm.1) (nLn lo) 0 0 0 0 0 0 0 [] g5 (by omega) (Nat.le_refl _) (Nat.zero_le _) (Nat.zero_le _) ?_ (fun z q _ _ => Nat.zero_le _) (fun z q _ _ => Nat.zero_le _) (fun a _ _ _ _ _ _ _ => rfl) m5 (sp 33 to (by decide) ro p33) (sp 34 ta (by decide) ra p34) (sp 35 tb (by decide) rb p35)
  · rw [x35 31 (by decide) (by decide) (by decide) (by decide) (by decide) (by decide) (by decide), e3 31 (by decide) (by decide) (by decide), f2 31 (by decide) (by decide)]
    exact w1 i hi
  · rw [x35 32 (by decide) (by decide) (by decide) (by decide) (by decide) (by decide) (by decide), e3 32 (by decide) (by decide) (by decide)]
    exact w2 i hi
  · unfold mrgL
    simp
end MRGC
