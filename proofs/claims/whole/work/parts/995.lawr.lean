section LAWR
variable {k : MC} {E : VE} {md : MD} {kd : List (Nat × Instr × Nat)} {d mc ms : Nat} {Q : State → Prop} {cm sm : Nat} {Sh : Nat → SE} {N : Nat} {G : Bool} {M : MM} {pc : Nat} {L : List (Option Value)} {st : List Value} {o : Nat}
theorem r_lcmpE (C : CK k E md kd d mc ms) {x : Int64} (hd : cod kd pc = some (.lcmp, 1)) (kk : PT k E Q cm sm Sh N G M (pc + 1) L (.int 0 :: st)) : PT k E Q cm sm Sh N G M pc L (.long x :: .long x :: st) := by
  intro ls H locs cells slots hL hH hS hc hs
  refine W.lcmp C.x C.b (C.dec hd) ?_
  rw [show lg_cmp x x = 0 from by simp [lg_cmp]]
  exact kk ls H locs cells slots hL hH hS hc hs
theorem R_thrown (hM : MO Sh N o) : Con E mX12_thrown 1 0 0 [.ref o] Sh N G M (PR Sh N (fun v M' => M' = M ∧ v = some (.int (M o 0)))) nox := by
  have h0 := hM.1
  refine Con.ofQ (by decide +kernel) (by simp [Value.category]) (Nat.le_of_ble_eq_true rfl) (fun k C0 Q hQ => ?_)
  have C : CK k E mX12_thrown kdX12_thrown 1 0 0 := ⟨C0, kdX12_thrown_ok⟩
  refine r_aload_n C 0 rfl rfl rfl rfl ?_
  refine r_geti C rfl f_X12_90 (by assumption) rfl ?_
  exact q_iret C hQ rfl rfl rfl ⟨rfl, rfl, rfl, rfl⟩
end LAWR
