/-! length and charAt of a text constant -/
section SMT
variable {p : Program} {l : Launch} {e : Env} {R : Room} {s : State} {m : MethodId} {args : Array Value} {below : List Frame} {meth : Method} {c : Code} {locs : List Loc} {cells slots : Nat} {Q : State → Prop}
variable {E : SE} {G : Heap} {L : Nat} {xs : Nat → Int32} {H : AH} {Hr : Heap} {oc nL pc : Nat} {ini : Bool} {cc : ByteArray} {lr : Array Slot}
theorem so_len {i jj : Nat} {st : List AV} (X : Cx p m c meth s oc ini nL cc) (hK : Kf E G L xs s) (hR : 8 ≤ R.frames ∧ 600 ≤ R.locals) (hS : Sim E G L xs H Hr) (hsz : lr.size = nL) (hlo : okL E locs) (hi : i < nS) (h8 : st.length ≤ 8) (hj : (oc, jj, 1054) ∈ MLL) (hd : decode cc pc = .ok (.invokevirtual jj, 3))
    (kk : ∀ locs' : List Loc, okL E locs' → W p l e R s m args below meth c Hr locs' cells slots Q (F0 m (pc + 3) lr (.int (Int32.ofNat (TXT i).length) :: st.map (conc E)))) : W p l e R s m args below meth c Hr locs cells slots Q (F0 m pc lr ((vR (2 + i) :: st).map (conc E))) := by
  sorry
theorem so_chr {i jj : Nat} {y : Int32} {st : List AV} (X : Cx p m c meth s oc ini nL cc) (hK : Kf E G L xs s) (hR : 8 ≤ R.frames ∧ 600 ≤ R.locals) (hS : Sim E G L xs H Hr) (hsz : lr.size = nL) (hlo : okL E locs) (hi : i < nS) (hin : vp_in y (TXT i).length) (h8 : st.length ≤ 8) (hj : (oc, jj, 1055) ∈ MLL) (hd : decode cc pc = .ok (.invokevirtual jj, 3))
    (kk : ∀ locs' : List Loc, okL E locs' → W p l e R s m args below meth c Hr locs' cells slots Q (F0 m (pc + 3) lr (.int ((TXT i).getD y.toNatClampNeg 0) :: st.map (conc E)))) : W p l e R s m args below meth c Hr locs cells slots Q (F0 m pc lr ((vI y :: vR (2 + i) :: st).map (conc E))) := by
  sorry
end SMT
