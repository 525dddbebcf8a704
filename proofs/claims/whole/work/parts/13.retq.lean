section RETQ
theorem Con.ofQ {E : VE} {md : MD} {d mc ms : Nat} {av : List Value} {Sh : Nat → SE} {N : Nat} {G : Bool} {M : MM} {Post : Option Value → (Nat → SE) → Nat → MM → Prop} {PX : String → Prop}
    (hy : plainName md.1.cls = true) (h1 : ∀ v ∈ av, v.category = 1) (hn : av.length ≤ md.2.2.1)
    (body : ∀ k : MC, CX k E md d mc ms → ∀ Q : State → Prop, Q = QM k E mc ms Sh N G M Post PX → PT k E Q mc ms Sh N G M 0 (av.map some ++ List.replicate (md.2.2.1 - av.length) none) []) : Con E md d mc ms av Sh N G M Post PX :=
  Con.of hy h1 hn (fun k C => body k C _ rfl)
variable {k : MC} {E : VE} {md : MD} {kd : List (Nat × Instr × Nat)} {d mc ms : Nat} {Q : State → Prop} {cm sm : Nat} {Sh : Nat → SE} {N : Nat} {G : Bool} {M : MM} {pc : Nat} {L : List (Option Value)}
theorem q_iret (C : CK k E md kd d mc ms) {Sh0 : Nat → SE} {N0 : Nat} {M0 : MM} {Post : Option Value → (Nat → SE) → Nat → MM → Prop} {PX : String → Prop} {v : Int32} {ty : FieldType} (hQ : Q = QM k E mc ms Sh0 N0 G M0 Post PX) (hd : cod kd pc = some (.ireturn, 1)) (ht : md.2.2.2 = some ty) (hn : narrow ty (.int v) = .int v) (hp : Post (some (.int v)) Sh N M) : PT k E Q cm sm Sh N G M pc L [.int v] := by
  subst hQ
  exact r_iret C hd ht hn hp
theorem q_vret (C : CK k E md kd d mc ms) {Sh0 : Nat → SE} {N0 : Nat} {M0 : MM} {Post : Option Value → (Nat → SE) → Nat → MM → Prop} {PX : String → Prop} (hQ : Q = QM k E mc ms Sh0 N0 G M0 Post PX) (hd : cod kd pc = some (.return_, 1)) (ht : md.2.2.2 = none) (hp : Post none Sh N M) : PT k E Q cm sm Sh N G M pc L [] := by
  subst hQ
  exact r_vret C hd ht hp
theorem q_aret (C : CK k E md kd d mc ms) {Sh0 : Nat → SE} {N0 : Nat} {M0 : MM} {Post : Option Value → (Nat → SE) → Nat → MM → Prop} {PX : String → Prop} {o : Nat} {rt : FieldType} (hQ : Q = QM k E mc ms Sh0 N0 G M0 Post PX) (hd : cod kd pc = some (.areturn, 1)) (ht : md.2.2.2 = some rt) (hrt : (∃ n, rt = .object n) ∨ ∃ t, rt = .array t) (hp : Post (some (.ref o)) Sh N M) : PT k E Q cm sm Sh N G M pc L [.ref o] := by
  subst hQ
  exact r_aret C hd ht hrt hp
end RETQ
