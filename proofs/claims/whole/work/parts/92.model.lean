section MAKEM
variable {E : VE} {Sh : Nat → SE} {N : Nat} {G : Bool} {M M' : MM} {o : Nat}
/-- a wall that nobody told -/
def rowN : Row := fun j => if j = 0 then nI 1 else 0
/-- what the reading begins with -/
def dr0 : DR := (false, (30, 50, 5), (0, fun _ => 0), (0, fun _ => 0))
/-- the state at the start -/
def st0 : ST := ((0, ydOf dr0, fun _ => rowN), (false, fun _ => rowN, fun _ => 0), fun _ => 0, (none, none), ((0, -1, -1), 0, fun _ => 0, fun _ => 0), (fun _ => none, fun _ => 0), (0, fun _ => 0, -1))
def moF0 : List (Option Value) := [none, nul, nul, nul, none, none, nul, nul, nul, nul, nul, nul, nul, none, none, none, none, none, none, none, none, none, none, nul, nul, none, nul, nul, nul, none, none, none, none, none, none, nul, nul, nul, nul, nul, none, nul]
/-- the reference under way: m arrays are made -/
def MIn (Sh : Nat → SE) (M : MM) (o m : Nat) (fl : List (Option Value)) (F : Nat → Int32) (S : Nat → SE) (M1 : MM) : Prop := S o = .inr (12, fl) ∧ M1 o = F ∧ Low o Sh S M M1 ∧ (∀ i, i < m → ∀ t n, moLen[i]? = some (t, n) → S (o + (i + 1)) = arE t n) ∧ (∀ i, i < m → i ≠ 3 → ∀ j, M1 (o + (i + 1)) j = 0) ∧ (3 < m → M1 (o + 4) 0 = nI 30 ∧ M1 (o + 4) 1 = nI 50 ∧ M1 (o + 4) 2 = nI 5)
variable {k : MC} {md : MD} {kd : List (Nat × Instr × Nat)} {d mc ms : Nat} {Q : State → Prop} {cm sm : Nat} {pc : Nat} {L : List (Option Value)} {S : Nat → SE} {M1 Mc : MM} {fl : List (Option Value)} {F : Nat → Int32} {m : Nat}
theorem r_fld (C : CK k E md kd d mc ms) {idx j t n : Nat} {ty : FieldType} (I : MIn Sh M o m fl F S M1) (hm : moLen[m]? = some (t, n)) (hMc : ∀ c, c ≠ o + 1 + m → Mc c = M1 c) (hz : m ≠ 3 → ∀ j, Mc (o + 1 + m) j = 0) (he : m = 3 → Mc (o + 4) 0 = nI 30 ∧ Mc (o + 4) 1 = nI 50 ∧ Mc (o + 4) 2 = nI 5) (hd : cod kd pc = some (.putfield idx, 3)) (hF : FL md.1.cls idx 12 j (.array ty) (some true)) (hi : md.1.name = "<init>") (hl : j < fl.length) {fl' : List (Option Value)} (hfl : fl.set j (some (.ref (o + 1 + m))) = fl')
    (kk : ∀ (S2 : Nat → SE) (M2 : MM), MIn Sh M o (m + 1) fl' F S2 M2 → PT k E Q cm sm S2 (o + 1 + (m + 1)) true M2 (pc + 3) L []) : PT k E Q cm sm (shUp S (o + 1 + m) (arE t n)) (o + 1 + m + 1) true Mc pc L [.ref (o + 1 + m), .ref o] := by
  subst hfl
  obtain ⟨i1, i2, i3, i4, i5, i6⟩ := I
  refine r_putv C hd hF (fun h => by cases h) (fun _ => hi) (fl := fl) ⟨by omega, by rw [shUp_ne (by omega)]; exact i1⟩ hl rfl rfl ?_
  refine kk _ Mc ⟨shUp_eq, by rw [hMc o (by omega)]; exact i2, fun c hc => ⟨by rw [shUp_ne (by omega), shUp_ne (by omega)]; exact (i3 c hc).1, by rw [hMc c (by omega)]; exact (i3 c hc).2⟩, fun i hi t' n' h => ?_, fun i hi h3 j => ?_, fun h3 => ?_⟩
  · rw [shUp_ne (by omega)]
    by_cases e : i = m
    · subst e
      rw [hm] at h
      cases h
      rw [show o + (i + 1) = o + 1 + i by omega, shUp_eq]
    · rw [shUp_ne (by omega)]
      exact i4 i (by omega) t' n' h
  · by_cases e : i = m
    · subst e
      rw [show o + (i + 1) = o + 1 + i by omega]
      exact hz h3 j
    · rw [hMc _ (by omega)]
      exact i5 i (by omega) h3 j
  · by_cases e : m = 3
    · exact he e
    · rw [hMc _ (by omega)]
      exact i6 (by omega)
theorem r_pm (C : CK k E md kd d mc ms) {idx j : Nat} {v : Int32} (I : MIn Sh M o m fl F S M1) (hd : cod kd pc = some (.putfield idx, 3)) (hF : FL md.1.cls idx 12 j .int (some false)) (hf : fl[j]? = some none) (kk : ∀ M2 : MM, MIn Sh M o m fl (upd F j v) S M2 → PT k E Q cm sm S (o + 1 + m) true M2 (pc + 3) L []) : PT k E Q cm sm S (o + 1 + m) true M1 pc L [.int v, .ref o] := by
  obtain ⟨i1, i2, i3, i4, i5, i6⟩ := I
  refine r_puti C hd hF (fl := fl) ⟨by omega, i1⟩ hf rfl rfl ?_
  refine kk _ ⟨i1, by rw [up_own, i2], fun c hc => ⟨(i3 c hc).1, by rw [up_row _ _ (by omega)]; exact (i3 c hc).2⟩, i4, fun i hi h3 q => by rw [up_row _ _ (by omega)]; exact i5 i hi h3 q, fun h3 => by rw [up_row _ _ (by omega)]; exact i6 h3⟩
theorem mk_model (h0 : Sh o = .inr (12, moF0)) (hz : ∀ j, M o j = 0) : Con E mX12_init 1 21 12956 [.ref o] Sh (o + 1) true M (fun r Sh' N' M' => r = none ∧ N' = o + 22 ∧ Low o Sh Sh' M M' ∧ MO Sh' N' o ∧ RI M' o st0) nox := by
  have I : MIn Sh M o 0 moF0 (fun _ => 0) Sh M := ⟨h0, funext hz, fun _ _ => ⟨rfl, rfl⟩, fun i hi => absurd hi (Nat.not_lt_zero i), fun i hi => absurd hi (Nat.not_lt_zero i), fun h => absurd h (Nat.not_lt_zero 3)⟩
  refine Con.ofQ (by decide +kernel) (by simp [Value.category]) (Nat.le_of_ble_eq_true rfl) (fun k C0 Q hQ => ?_)
  have C : CK k E mX12_init kdX12_init 1 21 12956 := ⟨C0, kdX12_init_ok⟩
  refine r_aload_n C 0 rfl rfl rfl rfl ?_
  refine r_oinit C rfl ol_X12 rfl (by decide) ?_
  refine r_aload_n C 0 rfl rfl rfl rfl ?_
  refine r_si (v := nI 11700) C rfl (by decide) ?_
  refine r_newI (N := o + 1 + 0) C rfl rfl (by decide) (by omega) (by omega) ?_
  refine r_fld C I rfl (fun c hc => aset_ne _ _ hc) (fun _ j => congrFun (aset_own _ _ _) j) (fun h => absurd h (by decide)) rfl f_X12_9 rfl (show 1 < 42 by decide) (fl' := [none, some (.ref (o + 1 + 0)), nul, nul, none, none, nul, nul, nul, nul, nul, nul, nul, none, none, none, none, none, none, none, none, none, none, nul, nul, none, nul, nul, nul, none, none, none, none, none, none, nul, nul, nul, nul, nul, none, nul]) rfl ?_
  clear I
  intro S M2 I
  refine r_aload_n C 0 rfl rfl rfl rfl ?_
  refine r_si (v := nI 144) C rfl (by decide) ?_
  refine r_newI (N := o + 1 + 1) C rfl rfl (by decide) (by omega) (by omega) ?_
  refine r_fld C I rfl (fun c hc => aset_ne _ _ hc) (fun _ j => congrFun (aset_own _ _ _) j) (fun h => absurd h (by decide)) rfl f_X12_13 rfl (show 2 < 42 by decide) (fl' := [none, some (.ref (o + 1 + 0)), some (.ref (o + 1 + 1)), nul, none, none, nul, nul, nul, nul, nul, nul, nul, none, none, none, none, none, none, none, none, none, none, nul, nul, none, nul, nul, nul, none, none, none, none, none, none, nul, nul, nul, nul, nul, none, nul]) rfl ?_
  clear I
  intro S M2 I
  refine r_aload_n C 0 rfl rfl rfl rfl ?_
  refine r_si (v := nI 144) C rfl (by decide) ?_
  refine r_newI (N := o + 1 + 2) C rfl rfl (by decide) (by omega) (by omega) ?_
  refine r_fld C I rfl (fun c hc => aset_ne _ _ hc) (fun _ j => congrFun (aset_own _ _ _) j) (fun h => absurd h (by decide)) rfl f_X12_16 rfl (show 3 < 42 by decide) (fl' := [none, some (.ref (o + 1 + 0)), some (.ref (o + 1 + 1)), some (.ref (o + 1 + 2)), none, none, nul, nul, nul, nul, nul, nul, nul, none, none, none, none, none, none, none, none, none, none, nul, nul, none, nul, nul, nul, none, none, none, none, none, none, nul, nul, nul, nul, nul, none, nul]) rfl ?_
  clear I
  intro S M2 I
  refine r_aload_n C 0 rfl rfl rfl rfl ?_
  refine r_bi (v := nI 6) C rfl (by decide) ?_
  refine r_newI (N := o + 1 + 3) C rfl rfl (by decide) (by omega) (by omega) ?_
  have e4 : At (shUp S (o + 1 + 3) (arE 0 6)) (o + 1 + 3 + 1) (o + 1 + 3) (arE 0 6) := At.same (by omega)
  refine r_dup C rfl rfl ?_
  refine r_ic (v := nI 0) C rfl (by decide) ?_
  refine r_bi (v := nI 30) C rfl (by decide) ?_
  refine r_iast C rfl (by assumption) (0) rfl (by omega) (by decide) ?_
  refine r_dup C rfl rfl ?_
  refine r_ic (v := nI 1) C rfl (by decide) ?_
  refine r_bi (v := nI 50) C rfl (by decide) ?_
  refine r_iast C rfl (by assumption) (1) rfl (by omega) (by decide) ?_
  refine r_dup C rfl rfl ?_
  refine r_ic (v := nI 2) C rfl (by decide) ?_
  refine r_ic (v := nI 5) C rfl (by decide) ?_
  refine r_iast C rfl (by assumption) (2) rfl (by omega) (by decide) ?_
  refine r_dup C rfl rfl ?_
  refine r_ic (v := nI 3) C rfl (by decide) ?_
  refine r_ic (v := nI 0) C rfl (by decide) ?_
  refine r_iast C rfl (by assumption) (3) rfl (by omega) (by decide) ?_
  refine r_dup C rfl rfl ?_
  refine r_ic (v := nI 4) C rfl (by decide) ?_
  refine r_ic (v := nI 0) C rfl (by decide) ?_
  refine r_iast C rfl (by assumption) (4) rfl (by omega) (by decide) ?_
  refine r_dup C rfl rfl ?_
  refine r_ic (v := nI 5) C rfl (by decide) ?_
  refine r_ic (v := nI 0) C rfl (by decide) ?_
  refine r_iast C rfl (by assumption) (5) rfl (by omega) (by decide) ?_
  refine r_fld C I rfl (fun c hc => by rw [up_row _ _ hc, up_row _ _ hc, up_row _ _ hc, up_row _ _ hc, up_row _ _ hc, up_row _ _ hc, aset_ne _ _ hc]) (fun h => absurd rfl h) (fun _ => ⟨?_, ?_, ?_⟩) rfl f_X12_19 rfl (show 6 < 42 by decide) (fl' := [none, some (.ref (o + 1 + 0)), some (.ref (o + 1 + 1)), some (.ref (o + 1 + 2)), none, none, some (.ref (o + 1 + 3)), nul, nul, nul, nul, nul, nul, none, none, none, none, none, none, none, none, none, none, nul, nul, none, nul, nul, nul, none, none, none, none, none, none, nul, nul, nul, nul, nul, none, nul]) rfl ?_
  · rw [up_ne _ _ (by omega), up_ne _ _ (by omega), up_ne _ _ (by omega), up_ne _ _ (by omega), up_ne _ _ (by omega)]; exact up_same _ _ _ _
  · rw [up_ne _ _ (by omega), up_ne _ _ (by omega), up_ne _ _ (by omega), up_ne _ _ (by omega)]; exact up_same _ _ _ _
  · rw [up_ne _ _ (by omega), up_ne _ _ (by omega), up_ne _ _ (by omega)]; exact up_same _ _ _ _
  clear I
  intro S M2 I
  refine r_aload_n C 0 rfl rfl rfl rfl ?_
  refine r_bi (v := nI 60) C rfl (by decide) ?_
  refine r_newI (N := o + 1 + 4) C rfl rfl (by decide) (by omega) (by omega) ?_
  refine r_fld C I rfl (fun c hc => aset_ne _ _ hc) (fun _ j => congrFun (aset_own _ _ _) j) (fun h => absurd h (by decide)) rfl f_X12_22 rfl (show 7 < 42 by decide) (fl' := [none, some (.ref (o + 1 + 0)), some (.ref (o + 1 + 1)), some (.ref (o + 1 + 2)), none, none, some (.ref (o + 1 + 3)), some (.ref (o + 1 + 4)), nul, nul, nul, nul, nul, none, none, none, none, none, none, none, none, none, none, nul, nul, none, nul, nul, nul, none, none, none, none, none, none, nul, nul, nul, nul, nul, none, nul]) rfl ?_
  clear I
  intro S M2 I
  refine r_aload_n C 0 rfl rfl rfl rfl ?_
  refine r_bi (v := nI 60) C rfl (by decide) ?_
  refine r_newI (N := o + 1 + 5) C rfl rfl (by decide) (by omega) (by omega) ?_
  refine r_fld C I rfl (fun c hc => aset_ne _ _ hc) (fun _ j => congrFun (aset_own _ _ _) j) (fun h => absurd h (by decide)) rfl f_X12_25 rfl (show 8 < 42 by decide) (fl' := [none, some (.ref (o + 1 + 0)), some (.ref (o + 1 + 1)), some (.ref (o + 1 + 2)), none, none, some (.ref (o + 1 + 3)), some (.ref (o + 1 + 4)), some (.ref (o + 1 + 5)), nul, nul, nul, nul, none, none, none, none, none, none, none, none, none, none, nul, nul, none, nul, nul, nul, none, none, none, none, none, none, nul, nul, nul, nul, nul, none, nul]) rfl ?_
  clear I
  intro S M2 I
  refine r_aload_n C 0 rfl rfl rfl rfl ?_
  refine r_bi (v := nI 60) C rfl (by decide) ?_
  refine r_newI (N := o + 1 + 6) C rfl rfl (by decide) (by omega) (by omega) ?_
  refine r_fld C I rfl (fun c hc => aset_ne _ _ hc) (fun _ j => congrFun (aset_own _ _ _) j) (fun h => absurd h (by decide)) rfl f_X12_28 rfl (show 9 < 42 by decide) (fl' := [none, some (.ref (o + 1 + 0)), some (.ref (o + 1 + 1)), some (.ref (o + 1 + 2)), none, none, some (.ref (o + 1 + 3)), some (.ref (o + 1 + 4)), some (.ref (o + 1 + 5)), some (.ref (o + 1 + 6)), nul, nul, nul, none, none, none, none, none, none, none, none, none, none, nul, nul, none, nul, nul, nul, none, none, none, none, none, none, nul, nul, nul, nul, nul, none, nul]) rfl ?_
  clear I
  intro S M2 I
  refine r_aload_n C 0 rfl rfl rfl rfl ?_
  refine r_ic (v := nI 2) C rfl (by decide) ?_
  refine r_newI (N := o + 1 + 7) C rfl rfl (by decide) (by omega) (by omega) ?_
  refine r_fld C I rfl (fun c hc => aset_ne _ _ hc) (fun _ j => congrFun (aset_own _ _ _) j) (fun h => absurd h (by decide)) rfl f_X12_31 rfl (show 10 < 42 by decide) (fl' := [none, some (.ref (o + 1 + 0)), some (.ref (o + 1 + 1)), some (.ref (o + 1 + 2)), none, none, some (.ref (o + 1 + 3)), some (.ref (o + 1 + 4)), some (.ref (o + 1 + 5)), some (.ref (o + 1 + 6)), some (.ref (o + 1 + 7)), nul, nul, none, none, none, none, none, none, none, none, none, none, nul, nul, none, nul, nul, nul, none, none, none, none, none, none, nul, nul, nul, nul, nul, none, nul]) rfl ?_
  clear I
  intro S M2 I
  refine r_aload_n C 0 rfl rfl rfl rfl ?_
  refine r_ic (v := nI 4) C rfl (by decide) ?_
  refine r_newI (N := o + 1 + 8) C rfl rfl (by decide) (by omega) (by omega) ?_
  refine r_fld C I rfl (fun c hc => aset_ne _ _ hc) (fun _ j => congrFun (aset_own _ _ _) j) (fun h => absurd h (by decide)) rfl f_X12_34 rfl (show 11 < 42 by decide) (fl' := [none, some (.ref (o + 1 + 0)), some (.ref (o + 1 + 1)), some (.ref (o + 1 + 2)), none, none, some (.ref (o + 1 + 3)), some (.ref (o + 1 + 4)), some (.ref (o + 1 + 5)), some (.ref (o + 1 + 6)), some (.ref (o + 1 + 7)), some (.ref (o + 1 + 8)), nul, none, none, none, none, none, none, none, none, none, none, nul, nul, none, nul, nul, nul, none, none, none, none, none, none, nul, nul, nul, nul, nul, none, nul]) rfl ?_
  clear I
  intro S M2 I
  refine r_aload_n C 0 rfl rfl rfl rfl ?_
  refine r_si (v := nI 700) C rfl (by decide) ?_
  refine r_newI (N := o + 1 + 9) C rfl rfl (by decide) (by omega) (by omega) ?_
  refine r_fld C I rfl (fun c hc => aset_ne _ _ hc) (fun _ j => congrFun (aset_own _ _ _) j) (fun h => absurd h (by decide)) rfl f_X12_37 rfl (show 12 < 42 by decide) (fl' := [none, some (.ref (o + 1 + 0)), some (.ref (o + 1 + 1)), some (.ref (o + 1 + 2)), none, none, some (.ref (o + 1 + 3)), some (.ref (o + 1 + 4)), some (.ref (o + 1 + 5)), some (.ref (o + 1 + 6)), some (.ref (o + 1 + 7)), some (.ref (o + 1 + 8)), some (.ref (o + 1 + 9)), none, none, none, none, none, none, none, none, none, none, nul, nul, none, nul, nul, nul, none, none, none, none, none, none, nul, nul, nul, nul, nul, none, nul]) rfl ?_
  clear I
  intro S M2 I
  refine r_aload_n C 0 rfl rfl rfl rfl ?_
  refine r_ic (v := (-1)) C rfl (by decide) ?_
  refine r_pm C I rfl f_X12_40 rfl ?_
  clear I
  intro M2 I
  refine r_aload_n C 0 rfl rfl rfl rfl ?_
  refine r_ic (v := nI 5) C rfl (by decide) ?_
  refine r_newI (N := o + 1 + 10) C rfl rfl (by decide) (by omega) (by omega) ?_
  refine r_fld C I rfl (fun c hc => aset_ne _ _ hc) (fun _ j => congrFun (aset_own _ _ _) j) (fun h => absurd h (by decide)) rfl f_X12_44 rfl (show 23 < 42 by decide) (fl' := [none, some (.ref (o + 1 + 0)), some (.ref (o + 1 + 1)), some (.ref (o + 1 + 2)), none, none, some (.ref (o + 1 + 3)), some (.ref (o + 1 + 4)), some (.ref (o + 1 + 5)), some (.ref (o + 1 + 6)), some (.ref (o + 1 + 7)), some (.ref (o + 1 + 8)), some (.ref (o + 1 + 9)), none, none, none, none, none, none, none, none, none, none, some (.ref (o + 1 + 10)), nul, none, nul, nul, nul, none, none, none, none, none, none, nul, nul, nul, nul, nul, none, nul]) rfl ?_
  clear I
  intro S M2 I
  refine r_aload_n C 0 rfl rfl rfl rfl ?_
  refine r_ic (v := nI 5) C rfl (by decide) ?_
  refine r_newI (N := o + 1 + 11) C rfl rfl (by decide) (by omega) (by omega) ?_
  refine r_fld C I rfl (fun c hc => aset_ne _ _ hc) (fun _ j => congrFun (aset_own _ _ _) j) (fun h => absurd h (by decide)) rfl f_X12_47 rfl (show 24 < 42 by decide) (fl' := [none, some (.ref (o + 1 + 0)), some (.ref (o + 1 + 1)), some (.ref (o + 1 + 2)), none, none, some (.ref (o + 1 + 3)), some (.ref (o + 1 + 4)), some (.ref (o + 1 + 5)), some (.ref (o + 1 + 6)), some (.ref (o + 1 + 7)), some (.ref (o + 1 + 8)), some (.ref (o + 1 + 9)), none, none, none, none, none, none, none, none, none, none, some (.ref (o + 1 + 10)), some (.ref (o + 1 + 11)), none, nul, nul, nul, none, none, none, none, none, none, nul, nul, nul, nul, nul, none, nul]) rfl ?_
  clear I
  intro S M2 I
  refine r_aload_n C 0 rfl rfl rfl rfl ?_
  refine r_ic (v := (-1)) C rfl (by decide) ?_
  refine r_pm C I rfl f_X12_50 rfl ?_
  clear I
  intro M2 I
  refine r_aload_n C 0 rfl rfl rfl rfl ?_
  refine r_bi (v := nI 6) C rfl (by decide) ?_
  refine r_newI (N := o + 1 + 12) C rfl rfl (by decide) (by omega) (by omega) ?_
  refine r_fld C I rfl (fun c hc => aset_ne _ _ hc) (fun _ j => congrFun (aset_own _ _ _) j) (fun h => absurd h (by decide)) rfl f_X12_53 rfl (show 26 < 42 by decide) (fl' := [none, some (.ref (o + 1 + 0)), some (.ref (o + 1 + 1)), some (.ref (o + 1 + 2)), none, none, some (.ref (o + 1 + 3)), some (.ref (o + 1 + 4)), some (.ref (o + 1 + 5)), some (.ref (o + 1 + 6)), some (.ref (o + 1 + 7)), some (.ref (o + 1 + 8)), some (.ref (o + 1 + 9)), none, none, none, none, none, none, none, none, none, none, some (.ref (o + 1 + 10)), some (.ref (o + 1 + 11)), none, some (.ref (o + 1 + 12)), nul, nul, none, none, none, none, none, none, nul, nul, nul, nul, nul, none, nul]) rfl ?_
  clear I
  intro S M2 I
  refine r_aload_n C 0 rfl rfl rfl rfl ?_
  refine r_bi (v := nI 6) C rfl (by decide) ?_
  refine r_newI (N := o + 1 + 13) C rfl rfl (by decide) (by omega) (by omega) ?_
  refine r_fld C I rfl (fun c hc => aset_ne _ _ hc) (fun _ j => congrFun (aset_own _ _ _) j) (fun h => absurd h (by decide)) rfl f_X12_56 rfl (show 27 < 42 by decide) (fl' := [none, some (.ref (o + 1 + 0)), some (.ref (o + 1 + 1)), some (.ref (o + 1 + 2)), none, none, some (.ref (o + 1 + 3)), some (.ref (o + 1 + 4)), some (.ref (o + 1 + 5)), some (.ref (o + 1 + 6)), some (.ref (o + 1 + 7)), some (.ref (o + 1 + 8)), some (.ref (o + 1 + 9)), none, none, none, none, none, none, none, none, none, none, some (.ref (o + 1 + 10)), some (.ref (o + 1 + 11)), none, some (.ref (o + 1 + 12)), some (.ref (o + 1 + 13)), nul, none, none, none, none, none, none, nul, nul, nul, nul, nul, none, nul]) rfl ?_
  clear I
  intro S M2 I
  refine r_aload_n C 0 rfl rfl rfl rfl ?_
  refine r_bi (v := nI 6) C rfl (by decide) ?_
  refine r_newI (N := o + 1 + 14) C rfl rfl (by decide) (by omega) (by omega) ?_
  refine r_fld C I rfl (fun c hc => aset_ne _ _ hc) (fun _ j => congrFun (aset_own _ _ _) j) (fun h => absurd h (by decide)) rfl f_X12_59 rfl (show 28 < 42 by decide) (fl' := [none, some (.ref (o + 1 + 0)), some (.ref (o + 1 + 1)), some (.ref (o + 1 + 2)), none, none, some (.ref (o + 1 + 3)), some (.ref (o + 1 + 4)), some (.ref (o + 1 + 5)), some (.ref (o + 1 + 6)), some (.ref (o + 1 + 7)), some (.ref (o + 1 + 8)), some (.ref (o + 1 + 9)), none, none, none, none, none, none, none, none, none, none, some (.ref (o + 1 + 10)), some (.ref (o + 1 + 11)), none, some (.ref (o + 1 + 12)), some (.ref (o + 1 + 13)), some (.ref (o + 1 + 14)), none, none, none, none, none, none, nul, nul, nul, nul, nul, none, nul]) rfl ?_
  clear I
  intro S M2 I
  refine r_aload_n C 0 rfl rfl rfl rfl ?_
  refine r_ic (v := (-1)) C rfl (by decide) ?_
  refine r_pm C I rfl f_X12_62 rfl ?_
  clear I
  intro M2 I
  refine r_aload_n C 0 rfl rfl rfl rfl ?_
  refine r_ic (v := (-1)) C rfl (by decide) ?_
  refine r_pm C I rfl f_X12_65 rfl ?_
  clear I
  intro M2 I
  refine r_aload_n C 0 rfl rfl rfl rfl ?_
  refine r_ic (v := (-1)) C rfl (by decide) ?_
  refine r_pm C I rfl f_X12_68 rfl ?_
  clear I
  intro M2 I
  refine r_aload_n C 0 rfl rfl rfl rfl ?_
  refine r_bi (v := nI 12) C rfl (by decide) ?_
  refine r_newI (N := o + 1 + 15) C rfl rfl (by decide) (by omega) (by omega) ?_
  refine r_fld C I rfl (fun c hc => aset_ne _ _ hc) (fun _ j => congrFun (aset_own _ _ _) j) (fun h => absurd h (by decide)) rfl f_X12_71 rfl (show 35 < 42 by decide) (fl' := [none, some (.ref (o + 1 + 0)), some (.ref (o + 1 + 1)), some (.ref (o + 1 + 2)), none, none, some (.ref (o + 1 + 3)), some (.ref (o + 1 + 4)), some (.ref (o + 1 + 5)), some (.ref (o + 1 + 6)), some (.ref (o + 1 + 7)), some (.ref (o + 1 + 8)), some (.ref (o + 1 + 9)), none, none, none, none, none, none, none, none, none, none, some (.ref (o + 1 + 10)), some (.ref (o + 1 + 11)), none, some (.ref (o + 1 + 12)), some (.ref (o + 1 + 13)), some (.ref (o + 1 + 14)), none, none, none, none, none, none, some (.ref (o + 1 + 15)), nul, nul, nul, nul, none, nul]) rfl ?_
  clear I
  intro S M2 I
  refine r_aload_n C 0 rfl rfl rfl rfl ?_
  refine r_bi (v := nI 12) C rfl (by decide) ?_
  refine r_newI (N := o + 1 + 16) C rfl rfl (by decide) (by omega) (by omega) ?_
  refine r_fld C I rfl (fun c hc => aset_ne _ _ hc) (fun _ j => congrFun (aset_own _ _ _) j) (fun h => absurd h (by decide)) rfl f_X12_74 rfl (show 36 < 42 by decide) (fl' := [none, some (.ref (o + 1 + 0)), some (.ref (o + 1 + 1)), some (.ref (o + 1 + 2)), none, none, some (.ref (o + 1 + 3)), some (.ref (o + 1 + 4)), some (.ref (o + 1 + 5)), some (.ref (o + 1 + 6)), some (.ref (o + 1 + 7)), some (.ref (o + 1 + 8)), some (.ref (o + 1 + 9)), none, none, none, none, none, none, none, none, none, none, some (.ref (o + 1 + 10)), some (.ref (o + 1 + 11)), none, some (.ref (o + 1 + 12)), some (.ref (o + 1 + 13)), some (.ref (o + 1 + 14)), none, none, none, none, none, none, some (.ref (o + 1 + 15)), some (.ref (o + 1 + 16)), nul, nul, nul, none, nul]) rfl ?_
  clear I
  intro S M2 I
  refine r_aload_n C 0 rfl rfl rfl rfl ?_
  refine r_bi (v := nI 12) C rfl (by decide) ?_
  refine r_newI (N := o + 1 + 17) C rfl rfl (by decide) (by omega) (by omega) ?_
  refine r_fld C I rfl (fun c hc => aset_ne _ _ hc) (fun _ j => congrFun (aset_own _ _ _) j) (fun h => absurd h (by decide)) rfl f_X12_77 rfl (show 37 < 42 by decide) (fl' := [none, some (.ref (o + 1 + 0)), some (.ref (o + 1 + 1)), some (.ref (o + 1 + 2)), none, none, some (.ref (o + 1 + 3)), some (.ref (o + 1 + 4)), some (.ref (o + 1 + 5)), some (.ref (o + 1 + 6)), some (.ref (o + 1 + 7)), some (.ref (o + 1 + 8)), some (.ref (o + 1 + 9)), none, none, none, none, none, none, none, none, none, none, some (.ref (o + 1 + 10)), some (.ref (o + 1 + 11)), none, some (.ref (o + 1 + 12)), some (.ref (o + 1 + 13)), some (.ref (o + 1 + 14)), none, none, none, none, none, none, some (.ref (o + 1 + 15)), some (.ref (o + 1 + 16)), some (.ref (o + 1 + 17)), nul, nul, none, nul]) rfl ?_
  clear I
  intro S M2 I
  refine r_aload_n C 0 rfl rfl rfl rfl ?_
  refine r_ic (v := nI 4) C rfl (by decide) ?_
  refine r_newZ (N := o + 1 + 18) C rfl rfl (by decide) (by omega) (by omega) ?_
  refine r_fld C I rfl (fun c hc => aset_ne _ _ hc) (fun _ j => congrFun (aset_own _ _ _) j) (fun h => absurd h (by decide)) rfl f_X12_80 rfl (show 38 < 42 by decide) (fl' := [none, some (.ref (o + 1 + 0)), some (.ref (o + 1 + 1)), some (.ref (o + 1 + 2)), none, none, some (.ref (o + 1 + 3)), some (.ref (o + 1 + 4)), some (.ref (o + 1 + 5)), some (.ref (o + 1 + 6)), some (.ref (o + 1 + 7)), some (.ref (o + 1 + 8)), some (.ref (o + 1 + 9)), none, none, none, none, none, none, none, none, none, none, some (.ref (o + 1 + 10)), some (.ref (o + 1 + 11)), none, some (.ref (o + 1 + 12)), some (.ref (o + 1 + 13)), some (.ref (o + 1 + 14)), none, none, none, none, none, none, some (.ref (o + 1 + 15)), some (.ref (o + 1 + 16)), some (.ref (o + 1 + 17)), some (.ref (o + 1 + 18)), nul, none, nul]) rfl ?_
  clear I
  intro S M2 I
  refine r_aload_n C 0 rfl rfl rfl rfl ?_
  refine r_ic (v := nI 4) C rfl (by decide) ?_
  refine r_newI (N := o + 1 + 19) C rfl rfl (by decide) (by omega) (by omega) ?_
  refine r_fld C I rfl (fun c hc => aset_ne _ _ hc) (fun _ j => congrFun (aset_own _ _ _) j) (fun h => absurd h (by decide)) rfl f_X12_84 rfl (show 39 < 42 by decide) (fl' := [none, some (.ref (o + 1 + 0)), some (.ref (o + 1 + 1)), some (.ref (o + 1 + 2)), none, none, some (.ref (o + 1 + 3)), some (.ref (o + 1 + 4)), some (.ref (o + 1 + 5)), some (.ref (o + 1 + 6)), some (.ref (o + 1 + 7)), some (.ref (o + 1 + 8)), some (.ref (o + 1 + 9)), none, none, none, none, none, none, none, none, none, none, some (.ref (o + 1 + 10)), some (.ref (o + 1 + 11)), none, some (.ref (o + 1 + 12)), some (.ref (o + 1 + 13)), some (.ref (o + 1 + 14)), none, none, none, none, none, none, some (.ref (o + 1 + 15)), some (.ref (o + 1 + 16)), some (.ref (o + 1 + 17)), some (.ref (o + 1 + 18)), some (.ref (o + 1 + 19)), none, nul]) rfl ?_
  clear I
  intro S M2 I
  refine r_aload_n C 0 rfl rfl rfl rfl ?_
  refine r_ic (v := nI 4) C rfl (by decide) ?_
  refine r_newI (N := o + 1 + 20) C rfl rfl (by decide) (by omega) (by omega) ?_
  refine r_fld C I rfl (fun c hc => aset_ne _ _ hc) (fun _ j => congrFun (aset_own _ _ _) j) (fun h => absurd h (by decide)) rfl f_X12_87 rfl (show 41 < 42 by decide) (fl' := [none, some (.ref (o + 1 + 0)), some (.ref (o + 1 + 1)), some (.ref (o + 1 + 2)), none, none, some (.ref (o + 1 + 3)), some (.ref (o + 1 + 4)), some (.ref (o + 1 + 5)), some (.ref (o + 1 + 6)), some (.ref (o + 1 + 7)), some (.ref (o + 1 + 8)), some (.ref (o + 1 + 9)), none, none, none, none, none, none, none, none, none, none, some (.ref (o + 1 + 10)), some (.ref (o + 1 + 11)), none, some (.ref (o + 1 + 12)), some (.ref (o + 1 + 13)), some (.ref (o + 1 + 14)), none, none, none, none, none, none, some (.ref (o + 1 + 15)), some (.ref (o + 1 + 16)), some (.ref (o + 1 + 17)), some (.ref (o + 1 + 18)), some (.ref (o + 1 + 19)), none, some (.ref (o + 1 + 20))]) rfl ?_
  clear I
  intro S M2 I
  obtain ⟨i1, i2, i3, i4, i5, i6⟩ := I
  have i6 := i6 (by decide)
  refine q_vret C hQ rfl rfl ⟨rfl, rfl, i3, ⟨⟨by omega, i1⟩, fun i t n h => ?_⟩, ⟨by rw [i2]; rfl, ⟨?_, ?_, ?_, i5 7 (by decide) (by decide) 0, fun k hk => absurd hk (Nat.not_lt_zero k)⟩, fun i hi => absurd hi (Nat.not_lt_zero i)⟩, ⟨by rw [i2]; rfl, fun q => by cases q⟩, fun i _ => i5 8 (by decide) (by decide) i, ⟨by rw [i2]; rfl, (fun l h => by cases h)⟩, ⟨by rw [i2]; rfl, (fun l h => by cases h)⟩, ⟨by rw [i2]; rfl, by rw [i2]; rfl, by rw [i2]; rfl⟩, ⟨by rw [i2]; rfl, fun i hi => absurd hi (Nat.not_lt_zero i)⟩, fun g _ => i5 18 (by decide) (by decide) g, ⟨by rw [i2]; rfl, fun i hi => absurd hi (Nat.not_lt_zero i), by rw [i2]; rfl⟩⟩
  · have hi : i < 21 := (List.getElem?_eq_some_iff.mp h).1
    exact ⟨by omega, i4 i hi t n h⟩
  · simp only [grn]; rw [i6.2.2]; rfl
  · simp only [ful]; rw [i6.1, i6.2.2]; rfl
  · simp only [shr]; rw [i6.1, i6.2.1, i6.2.2]; rfl
end MAKEM
