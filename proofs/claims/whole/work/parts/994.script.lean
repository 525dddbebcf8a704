section SCRIPT
variable {k : MC} {E : VE} {md : MD} {kd : List (Nat × Instr × Nat)} {d mc ms : Nat} {Q : State → Prop} {cm sm : Nat} {Sh : Nat → SE} {N : Nat} {G : Bool} {M : MM} {pc : Nat} {L : List (Option Value)} {st : List Value} {xs : List Int32}
/-- the script lies outside of the world, at the address that 201 names -/
def SCR (k : MC) (E : VE) (xs : List Int32) : Prop := va_X (E.2.2.1 201) xs.length (fun j => xs.getD j 0) (kS k) (kS k).heap ∧ E.2.2.1 201 < (kS k).heap.size ∧ E.2.2.1 201 < E.2.1
theorem r_sld (C : CK k E md kd d mc ms) (hX : SCR k E xs) {i : Int32} (hd : cod kd pc = some (.iaload, 1)) (j : Nat) (hj : i = nI j) (hjn : j < xs.length) (hn : xs.length < 2 ^ 31) (kk : PT k E Q cm sm Sh N G M (pc + 1) L (.int (xs.getD j 0) :: st)) : PT k E Q cm sm Sh N G M pc L (.int i :: .retAddr 201 :: st) := by
  intro ls H locs cells slots hL hH hS hc hs
  subst hj
  have hjc : (nI j).toNatClampNeg = j := nI_clamp (by omega)
  refine va_sld C.x C.b hX.1 hX.2.1 (fun h => Nat.not_le_of_lt hX.2.2 h) hS (nI_in hjn hn) (C.dec hd) ?_
  rw [hjc]
  exact kk ls H locs cells slots hL hH hS hc hs
theorem r_slen (C : CK k E md kd d mc ms) (hX : SCR k E xs) (hd : cod kd pc = some (.arraylength, 1)) (kk : PT k E Q cm sm Sh N G M (pc + 1) L (.int (nI xs.length) :: st)) : PT k E Q cm sm Sh N G M pc L (.retAddr 201 :: st) := by
  intro ls H locs cells slots hL hH hS hc hs
  exact va_slen C.x C.b hX.1 hX.2.1 (fun h => Nat.not_le_of_lt hX.2.2 h) hS (C.dec hd) (kk ls H locs cells slots hL hH hS hc hs)
end SCRIPT
