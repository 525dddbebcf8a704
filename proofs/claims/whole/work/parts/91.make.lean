section MAKE
variable {E : VE} {Sh : Nat → SE} {N : Nat} {G : Bool} {M M' : MM} {o yd t bw w0 : Nat}
theorem At.grow {e e' : SE} (h : At Sh N o e) : At (shUp Sh N e') (N + 1) o e := ⟨Nat.lt_succ_of_lt h.1, by have := h.1; rw [shUp, if_neg (by omega)]; exact h.2⟩
theorem shUp_ne {c p : Nat} {e : SE} (h : c ≠ p) : shUp Sh p e c = Sh c := if_neg h
theorem shUp_eq {p : Nat} {e : SE} : shUp Sh p e p = e := if_pos rfl
def nul : Option Value := some .null
/-- nothing below has changed -/
abbrev Low (o : Nat) (Sh Sh' : Nat → SE) (M M' : MM) : Prop := ∀ c, c < o → Sh' c = Sh c ∧ M' c = M c
theorem mk_wall (h0 : Sh o = .inr (8, [nul, nul, nul, nul, none, none, none, none, none, none, none, none, none, none, none, none, none])) (hz : ∀ j, M o j = 0) : Con E mX8_init 2 3 312 [.ref o, .ref yd] Sh (o + 1) true M (fun r Sh' N' M' => r = none ∧ N' = o + 4 ∧ Low o Sh Sh' M M' ∧ Sh' o = .inr (8, waFl o yd) ∧ Sh' (o + 1) = arE 0 144 ∧ Sh' (o + 2) = arE 0 144 ∧ Sh' (o + 3) = arE 0 24 ∧ (∀ j, M' o j = if j = 4 then nI 1 else 0) ∧ ∀ j, M' (o + 1) j = 0 ∧ M' (o + 2) j = 0 ∧ M' (o + 3) j = 0) nox := by
  have a0 : At Sh (o + 1) o _ := ⟨by omega, h0⟩
  refine Con.ofQ (by decide +kernel) (by simp [Value.category]) (Nat.le_of_ble_eq_true rfl) (fun k C0 Q hQ => ?_)
  have C : CK k E mX8_init kdX8_init 2 3 312 := ⟨C0, kdX8_init_ok⟩
  refine r_aload_n C 0 rfl rfl rfl rfl ?_
  refine r_oinit C rfl ol_X8 rfl (by decide) ?_
  refine r_aload_n C 0 rfl rfl rfl rfl ?_
  refine r_si (v := nI 144) C rfl (by decide) ?_
  refine r_newI C rfl rfl (by decide) (by omega) (by omega) ?_
  refine r_putv C rfl f_X8_9 (fun h => by cases h) (fun _ => rfl) (At.grow a0) (show 1 < 17 by decide) rfl rfl ?_
  refine r_aload_n C 0 rfl rfl rfl rfl ?_
  refine r_si (v := nI 144) C rfl (by decide) ?_
  refine r_newI C rfl rfl (by decide) (by omega) (by omega) ?_
  refine r_putv C rfl f_X8_15 (fun h => by cases h) (fun _ => rfl) (At.grow (At.same (by omega))) (show 2 < 17 by decide) rfl rfl ?_
  refine r_aload_n C 0 rfl rfl rfl rfl ?_
  refine r_bi (v := nI 24) C rfl (by decide) ?_
  refine r_newI C rfl rfl (by decide) (by omega) (by omega) ?_
  refine r_putv C rfl f_X8_18 (fun h => by cases h) (fun _ => rfl) (At.grow (At.same (by omega))) (show 3 < 17 by decide) rfl rfl ?_
  refine r_aload_n C 0 rfl rfl rfl rfl ?_
  refine r_ic (v := nI 1) C rfl (by decide) ?_
  refine r_puti C rfl f_X8_21 (At.same (by omega)) rfl rfl rfl ?_
  refine r_aload_n C 0 rfl rfl rfl rfl ?_
  refine r_aload_n C 1 rfl rfl rfl rfl ?_
  refine r_putv C rfl f_X8_25 (fun h => by cases h) (fun _ => rfl) (At.same (by omega)) (show 0 < 17 by decide) rfl rfl ?_
  refine q_vret C hQ rfl rfl ⟨rfl, rfl, fun c hc => ⟨?_, ?_⟩, ?_, ?_, ?_, ?_, fun j => ?_, fun j => ⟨?_, ?_, ?_⟩⟩
  · repeat rw [shUp_ne (by omega)]
  · rw [up_row _ _ (by omega), aset_ne _ _ (by omega), aset_ne _ _ (by omega), aset_ne _ _ (by omega)]
  · rw [shUp_eq]; rfl
  · rw [shUp_ne (by omega), shUp_ne (by omega), shUp_ne (by omega), shUp_ne (by omega), shUp_ne (by omega), shUp_ne (by omega), shUp_eq]
  · rw [shUp_ne (by omega), shUp_ne (by omega), shUp_ne (by omega), shUp_ne (by omega)]; exact shUp_eq
  · rw [shUp_ne (by omega), shUp_ne (by omega)]; exact shUp_eq
  · by_cases e : j = 4
    · rw [e, up_same, if_pos rfl]
    · rw [up_ne _ _ (by omega), if_neg e, aset_ne _ _ (by omega), aset_ne _ _ (by omega), aset_ne _ _ (by omega)]; exact hz j
  · rw [up_row _ _ (by omega), aset_ne _ _ (by omega), aset_ne _ _ (by omega), aset_own]
  · rw [up_row _ _ (by omega), aset_ne _ _ (by omega)]; exact congrFun (aset_own _ _ _) j
  · rw [up_row _ _ (by omega)]; exact congrFun (aset_own _ _ _) j
theorem mk_yard (h0 : Sh o = .inr (10, [nul, nul, nul, none, none, none, none, none, none])) : Con E mX10_init 3 3 117 [.ref o] Sh (o + 1) true M (fun r Sh' N' M' => r = none ∧ N' = o + 4 ∧ Low o Sh Sh' M M' ∧ Sh' o = .inr (10, yaFl o) ∧ Sh' (o + 1) = arE 0 3 ∧ Sh' (o + 2) = arE 0 24 ∧ Sh' (o + 3) = arE 0 90 ∧ YDr M' o (false, (30, 50, 5), (0, fun _ => 0), (0, fun _ => 0))) nox := by
  have a0 : At Sh (o + 1) o _ := ⟨by omega, h0⟩
  refine Con.ofQ (by decide +kernel) (by simp [Value.category]) (Nat.le_of_ble_eq_true rfl) (fun k C0 Q hQ => ?_)
  have C : CK k E mX10_init kdX10_init 3 3 117 := ⟨C0, kdX10_init_ok⟩
  refine r_aload_n C 0 rfl rfl rfl rfl ?_
  refine r_oinit C rfl ol_X10 rfl (by decide) ?_
  refine r_aload_n C 0 rfl rfl rfl rfl ?_
  refine r_ic (v := nI 3) C rfl (by decide) ?_
  refine r_newI C rfl rfl (by decide) (by omega) (by omega) ?_
  refine r_putv C rfl f_X10_9 (fun h => by cases h) (fun _ => rfl) (At.grow a0) (show 0 < 9 by decide) rfl rfl ?_
  refine r_aload_n C 0 rfl rfl rfl rfl ?_
  refine r_bi (v := nI 24) C rfl (by decide) ?_
  refine r_newI C rfl rfl (by decide) (by omega) (by omega) ?_
  refine r_putv C rfl f_X10_15 (fun h => by cases h) (fun _ => rfl) (At.grow (At.same (by omega))) (show 1 < 9 by decide) rfl rfl ?_
  refine r_aload_n C 0 rfl rfl rfl rfl ?_
  refine r_bi (v := nI 90) C rfl (by decide) ?_
  refine r_newI C rfl rfl (by decide) (by omega) (by omega) ?_
  refine r_putv C rfl f_X10_18 (fun h => by cases h) (fun _ => rfl) (At.grow (At.same (by omega))) (show 2 < 9 by decide) rfl rfl ?_
  refine r_aload_n C 0 rfl rfl rfl rfl ?_
  refine r_eqS ?_
  intro S1 M1 hS1 hM1
  have s0 : S1 o = .inr (10, yaFl o) := by rw [← hS1, shUp_eq]; rfl
  have s1 : S1 (o + 1) = arE 0 3 := by rw [← hS1, shUp_ne (by omega), shUp_ne (by omega), shUp_ne (by omega), shUp_ne (by omega), shUp_ne (by omega), shUp_eq]
  have s2 : S1 (o + 2) = arE 0 24 := by rw [← hS1, shUp_ne (by omega), shUp_ne (by omega), shUp_ne (by omega)]; exact shUp_eq
  have s3 : S1 (o + 3) = arE 0 90 := by rw [← hS1, shUp_ne (by omega)]; exact shUp_eq
  have hA : YA S1 (o + 1 + 1 + 1 + 1) o := ⟨⟨by omega, s0⟩, ⟨by omega, s1⟩, ⟨by omega, s2⟩, ⟨by omega, s3⟩⟩
  have hA0 := hA.1
  have z2 : ∀ j, M1 (o + 2) j = 0 := fun j => by rw [← hM1, aset_ne _ _ (by omega)]; exact congrFun (aset_own _ _ _) j
  have z3 : ∀ j, M1 (o + 3) j = 0 := fun j => by rw [← hM1]; exact congrFun (aset_own _ _ _) j
  refine v0_g C rfl mfX10_clear lk_X10_21 (by assumption) (y_clear hA (tr := fun _ => 0) (wk := fun _ => 0) (fun i _ => z2 i) (fun i _ => z3 i)) ?_
  rintro v M2 ⟨rfl, hF2, hD2⟩
  refine q_vret C hQ rfl rfl ⟨rfl, rfl, fun c hc => ⟨?_, ?_⟩, s0, s1, s2, s3, hD2⟩
  · rw [← hS1]
    repeat rw [shUp_ne (by omega)]
  · rw [hF2 c (by omega) (by omega), ← hM1, aset_ne _ _ (by omega), aset_ne _ _ (by omega), aset_ne _ _ (by omega)]
theorem mk_reader (h0 : Sh o = .inr (6, [nul, none, none, none, none, none, none])) : Con E mX6_init 1 1 0 [.ref o] Sh (o + 1) true M (fun r Sh' N' M' => r = none ∧ N' = o + 2 ∧ Low o Sh Sh' M M' ∧ Sh' o = .inr (6, rdFl (o + 1)) ∧ Sh' (o + 1) = arE 1 0) nox := by
  have a0 : At Sh (o + 1) o _ := ⟨by omega, h0⟩
  refine Con.ofQ (by decide +kernel) (by simp [Value.category]) (Nat.le_of_ble_eq_true rfl) (fun k C0 Q hQ => ?_)
  have C : CK k E mX6_init kdX6_init 1 1 0 := ⟨C0, kdX6_init_ok⟩
  refine r_aload_n C 0 rfl rfl rfl rfl ?_
  refine r_oinit C rfl ol_X6 rfl (by decide) ?_
  refine r_aload_n C 0 rfl rfl rfl rfl ?_
  refine r_ic (v := nI 0) C rfl (by decide) ?_
  refine r_newB C rfl rfl (by decide) (by omega) (by omega) ?_
  refine r_putv C rfl f_X6_9 (fun h => by cases h) (fun h => by cases h) (At.grow a0) (show 0 < 7 by decide) rfl rfl ?_
  refine r_aload_n C 0 rfl rfl rfl rfl ?_
  refine r_ic (v := (-1)) C rfl (by decide) ?_
  refine r_puti C rfl f_X6_15 (At.same (by omega)) rfl rfl rfl ?_
  refine q_vret C hQ rfl rfl ⟨rfl, rfl, fun c hc => ⟨?_, ?_⟩, ?_, ?_⟩
  · repeat rw [shUp_ne (by omega)]
  · rw [up_row _ _ (by omega), aset_ne _ _ (by omega)]
  · rw [shUp_eq]; rfl
  · rw [shUp_ne (by omega), shUp_eq]
theorem mk_weather (h0 : Sh o = .inr (9, [nul, nul, nul])) : Con E mX9_init 1 2 288 [.ref o, .ref yd] Sh (o + 1) true M (fun r Sh' N' M' => r = none ∧ N' = o + 3 ∧ Low o Sh Sh' M M' ∧ Sh' o = .inr (9, taFl o yd) ∧ Sh' (o + 1) = arE 0 144 ∧ Sh' (o + 2) = arE 0 144) nox := by
  have a0 : At Sh (o + 1) o _ := ⟨by omega, h0⟩
  refine Con.ofQ (by decide +kernel) (by simp [Value.category]) (Nat.le_of_ble_eq_true rfl) (fun k C0 Q hQ => ?_)
  have C : CK k E mX9_init kdX9_init 1 2 288 := ⟨C0, kdX9_init_ok⟩
  refine r_aload_n C 0 rfl rfl rfl rfl ?_
  refine r_oinit C rfl ol_X9 rfl (by decide) ?_
  refine r_aload_n C 0 rfl rfl rfl rfl ?_
  refine r_si (v := nI 144) C rfl (by decide) ?_
  refine r_newI C rfl rfl (by decide) (by omega) (by omega) ?_
  refine r_putv C rfl f_X9_9 (fun h => by cases h) (fun _ => rfl) (At.grow a0) (show 1 < 3 by decide) rfl rfl ?_
  refine r_aload_n C 0 rfl rfl rfl rfl ?_
  refine r_si (v := nI 144) C rfl (by decide) ?_
  refine r_newI C rfl rfl (by decide) (by omega) (by omega) ?_
  refine r_putv C rfl f_X9_15 (fun h => by cases h) (fun _ => rfl) (At.grow (At.same (by omega))) (show 2 < 3 by decide) rfl rfl ?_
  refine r_aload_n C 0 rfl rfl rfl rfl ?_
  refine r_aload_n C 1 rfl rfl rfl rfl ?_
  refine r_putv C rfl f_X9_18 (fun h => by cases h) (fun _ => rfl) (At.same (by omega)) (show 0 < 3 by decide) rfl rfl ?_
  refine q_vret C hQ rfl rfl ⟨rfl, rfl, fun c hc => ⟨?_, ?_⟩, ?_, ?_, ?_⟩
  · repeat rw [shUp_ne (by omega)]
  · rw [aset_ne _ _ (by omega), aset_ne _ _ (by omega)]
  · rw [shUp_eq]; rfl
  · rw [shUp_ne (by omega), shUp_ne (by omega), shUp_ne (by omega), shUp_ne (by omega), shUp_eq]
  · rw [shUp_ne (by omega), shUp_ne (by omega)]; exact shUp_eq
theorem mk_fore (h0 : Sh o = .inr (1, [nul, nul, nul, nul])) (hb : bw < o) (hbw : Sh bw = arW 16 (fun j => some (w0 + 4 * j))) : Con E mX1_init 1 0 0 [.ref o, .ref yd, .ref t, .ref bw] Sh (o + 1) true M (fun r Sh' N' M' => r = none ∧ N' = o + 1 ∧ Low o Sh Sh' M M' ∧ Sh' o = .inr (1, [some (.ref yd), some (.ref t), some (.ref w0), some (.ref (w0 + 4))])) nox := by
  have a0 : At Sh (o + 1) o _ := ⟨by omega, h0⟩
  have b0 : At Sh (o + 1) bw _ := ⟨by omega, hbw⟩
  refine Con.ofQ (by decide +kernel) (by simp [Value.category]) (Nat.le_of_ble_eq_true rfl) (fun k C0 Q hQ => ?_)
  have C : CK k E mX1_init kdX1_init 1 0 0 := ⟨C0, kdX1_init_ok⟩
  refine r_aload_n C 0 rfl rfl rfl rfl ?_
  refine r_oinit C rfl ol_X1 rfl (by decide) ?_
  refine r_aload_n C 0 rfl rfl rfl rfl ?_
  refine r_aload_n C 1 rfl rfl rfl rfl ?_
  refine r_putv C rfl f_X1_9 (fun h => by cases h) (fun _ => rfl) a0 (show 0 < 4 by decide) rfl rfl ?_
  refine r_aload_n C 0 rfl rfl rfl rfl ?_
  refine r_aload_n C 2 rfl rfl rfl rfl ?_
  refine r_putv C rfl f_X1_15 (fun h => by cases h) (fun _ => rfl) (At.same (by omega)) (show 1 < 4 by decide) rfl rfl ?_
  refine r_aload_n C 0 rfl rfl rfl rfl ?_
  refine r_aload_n C 3 rfl rfl rfl rfl ?_
  refine r_ic (v := nI 0) C rfl (by decide) ?_
  refine r_aald C rfl ((b0.else (by omega)).else (by omega)) 0 rfl (by decide) (by decide) rfl ?_
  refine r_putv C rfl f_X1_19 (fun h => by cases h) (fun _ => rfl) (At.same (by omega)) (show 2 < 4 by decide) rfl rfl ?_
  refine r_aload_n C 0 rfl rfl rfl rfl ?_
  refine r_aload_n C 3 rfl rfl rfl rfl ?_
  refine r_ic (v := nI 1) C rfl (by decide) ?_
  refine r_aald C rfl (((b0.else (by omega)).else (by omega)).else (by omega)) 1 rfl (by decide) (by decide) rfl ?_
  refine r_putv C rfl f_X1_23 (fun h => by cases h) (fun _ => rfl) (At.same (by omega)) (show 3 < 4 by decide) rfl rfl ?_
  refine q_vret C hQ rfl rfl ⟨rfl, rfl, fun c hc => ⟨?_, rfl⟩, ?_⟩
  · repeat rw [shUp_ne (by omega)]
  · rw [shUp_eq]; rfl
theorem mk_plan (h0 : Sh o = .inr (5, [nul, nul, nul, nul, none])) (hz : M o 4 = 0) : Con E mX5_init 1 2 10 [.ref o, .ref t, .ref bw] Sh (o + 1) true M (fun r Sh' N' M' => r = none ∧ N' = o + 3 ∧ Low o Sh Sh' M M' ∧ Sh' o = .inr (5, [some (.ref t), some (.ref bw), some (.ref (o + 1)), some (.ref (o + 2)), none]) ∧ Sh' (o + 1) = arE 0 5 ∧ Sh' (o + 2) = arE 0 5 ∧ M' o 4 = 0) nox := by
  have a0 : At Sh (o + 1) o _ := ⟨by omega, h0⟩
  refine Con.ofQ (by decide +kernel) (by simp [Value.category]) (Nat.le_of_ble_eq_true rfl) (fun k C0 Q hQ => ?_)
  have C : CK k E mX5_init kdX5_init 1 2 10 := ⟨C0, kdX5_init_ok⟩
  refine r_aload_n C 0 rfl rfl rfl rfl ?_
  refine r_oinit C rfl ol_X5 rfl (by decide) ?_
  refine r_aload_n C 0 rfl rfl rfl rfl ?_
  refine r_ic (v := nI 5) C rfl (by decide) ?_
  refine r_newI C rfl rfl (by decide) (by omega) (by omega) ?_
  refine r_putv C rfl f_X5_9 (fun h => by cases h) (fun _ => rfl) (At.grow a0) (show 2 < 5 by decide) rfl rfl ?_
  refine r_aload_n C 0 rfl rfl rfl rfl ?_
  refine r_ic (v := nI 5) C rfl (by decide) ?_
  refine r_newI C rfl rfl (by decide) (by omega) (by omega) ?_
  refine r_putv C rfl f_X5_15 (fun h => by cases h) (fun _ => rfl) (At.grow (At.same (by omega))) (show 3 < 5 by decide) rfl rfl ?_
  refine r_aload_n C 0 rfl rfl rfl rfl ?_
  refine r_aload_n C 1 rfl rfl rfl rfl ?_
  refine r_putv C rfl f_X5_18 (fun h => by cases h) (fun _ => rfl) (At.same (by omega)) (show 0 < 5 by decide) rfl rfl ?_
  refine r_aload_n C 0 rfl rfl rfl rfl ?_
  refine r_aload_n C 2 rfl rfl rfl rfl ?_
  refine r_putv C rfl f_X5_22 (fun h => by cases h) (fun _ => rfl) (At.same (by omega)) (show 1 < 5 by decide) rfl rfl ?_
  refine q_vret C hQ rfl rfl ⟨rfl, rfl, fun c hc => ⟨?_, ?_⟩, ?_, ?_, ?_, ?_⟩
  · repeat rw [shUp_ne (by omega)]
  · rw [aset_ne _ _ (by omega), aset_ne _ _ (by omega)]
  · rw [shUp_eq]; rfl
  · rw [shUp_ne (by omega), shUp_ne (by omega), shUp_ne (by omega), shUp_ne (by omega), shUp_ne (by omega), shUp_eq]
  · rw [shUp_ne (by omega), shUp_ne (by omega), shUp_ne (by omega)]; exact shUp_eq
  · rw [aset_ne _ _ (by omega), aset_ne _ _ (by omega)]; exact hz
theorem mk_order (h0 : Sh o = .inr (4, [nul, nul, nul, none, nul, none])) (hz : M o 5 = 0) : Con E mX4_init 1 2 12 [.ref o, .ref t, .ref bw] Sh (o + 1) true M (fun r Sh' N' M' => r = none ∧ N' = o + 3 ∧ Low o Sh Sh' M M' ∧ Sh' o = .inr (4, [some (.ref t), some (.ref bw), some (.ref (o + 1)), none, some (.ref (o + 2)), none]) ∧ Sh' (o + 1) = arE 0 6 ∧ Sh' (o + 2) = arE 0 6 ∧ M' o 5 = 0) nox := by
  have a0 : At Sh (o + 1) o _ := ⟨by omega, h0⟩
  refine Con.ofQ (by decide +kernel) (by simp [Value.category]) (Nat.le_of_ble_eq_true rfl) (fun k C0 Q hQ => ?_)
  have C : CK k E mX4_init kdX4_init 1 2 12 := ⟨C0, kdX4_init_ok⟩
  refine r_aload_n C 0 rfl rfl rfl rfl ?_
  refine r_oinit C rfl ol_X4 rfl (by decide) ?_
  refine r_aload_n C 0 rfl rfl rfl rfl ?_
  refine r_bi (v := nI 6) C rfl (by decide) ?_
  refine r_newI C rfl rfl (by decide) (by omega) (by omega) ?_
  refine r_putv C rfl f_X4_9 (fun h => by cases h) (fun _ => rfl) (At.grow a0) (show 2 < 6 by decide) rfl rfl ?_
  refine r_aload_n C 0 rfl rfl rfl rfl ?_
  refine r_bi (v := nI 6) C rfl (by decide) ?_
  refine r_newI C rfl rfl (by decide) (by omega) (by omega) ?_
  refine r_putv C rfl f_X4_15 (fun h => by cases h) (fun _ => rfl) (At.grow (At.same (by omega))) (show 4 < 6 by decide) rfl rfl ?_
  refine r_aload_n C 0 rfl rfl rfl rfl ?_
  refine r_aload_n C 1 rfl rfl rfl rfl ?_
  refine r_putv C rfl f_X4_18 (fun h => by cases h) (fun _ => rfl) (At.same (by omega)) (show 0 < 6 by decide) rfl rfl ?_
  refine r_aload_n C 0 rfl rfl rfl rfl ?_
  refine r_aload_n C 2 rfl rfl rfl rfl ?_
  refine r_putv C rfl f_X4_22 (fun h => by cases h) (fun _ => rfl) (At.same (by omega)) (show 1 < 6 by decide) rfl rfl ?_
  refine q_vret C hQ rfl rfl ⟨rfl, rfl, fun c hc => ⟨?_, ?_⟩, ?_, ?_, ?_, ?_⟩
  · repeat rw [shUp_ne (by omega)]
  · rw [aset_ne _ _ (by omega), aset_ne _ _ (by omega)]
  · rw [shUp_eq]; rfl
  · rw [shUp_ne (by omega), shUp_ne (by omega), shUp_ne (by omega), shUp_ne (by omega), shUp_ne (by omega), shUp_eq]
  · rw [shUp_ne (by omega), shUp_ne (by omega), shUp_ne (by omega)]; exact shUp_eq
  · rw [aset_ne _ _ (by omega), aset_ne _ _ (by omega)]; exact hz
theorem mk_turn (h0 : Sh o = .inr (7, [nul, nul, none, none, none])) : Con E mX7_init 1 0 0 [.ref o, .ref t, .ref bw] Sh (o + 1) true M (fun r Sh' N' M' => r = none ∧ N' = o + 1 ∧ Low o Sh Sh' M M' ∧ Sh' o = .inr (7, [some (.ref t), some (.ref bw), none, none, none])) nox := by
  have a0 : At Sh (o + 1) o _ := ⟨by omega, h0⟩
  refine Con.ofQ (by decide +kernel) (by simp [Value.category]) (Nat.le_of_ble_eq_true rfl) (fun k C0 Q hQ => ?_)
  have C : CK k E mX7_init kdX7_init 1 0 0 := ⟨C0, kdX7_init_ok⟩
  refine r_aload_n C 0 rfl rfl rfl rfl ?_
  refine r_oinit C rfl ol_X7 rfl (by decide) ?_
  refine r_aload_n C 0 rfl rfl rfl rfl ?_
  refine r_aload_n C 1 rfl rfl rfl rfl ?_
  refine r_putv C rfl f_X7_9 (fun h => by cases h) (fun _ => rfl) a0 (show 0 < 5 by decide) rfl rfl ?_
  refine r_aload_n C 0 rfl rfl rfl rfl ?_
  refine r_aload_n C 2 rfl rfl rfl rfl ?_
  refine r_putv C rfl f_X7_15 (fun h => by cases h) (fun _ => rfl) (At.same (by omega)) (show 1 < 5 by decide) rfl rfl ?_
  refine q_vret C hQ rfl rfl ⟨rfl, rfl, fun c hc => ⟨?_, rfl⟩, ?_⟩
  · repeat rw [shUp_ne (by omega)]
  · rw [shUp_eq]; rfl
theorem mk_bricks (h0 : Sh o = .inr (0, [none, none, none])) (hz : M o 0 = 0) : Con E mX0_init 1 0 0 [.ref o] Sh (o + 1) true M (fun r Sh' N' M' => r = none ∧ N' = o + 1 ∧ Sh' = Sh ∧ Low o Sh Sh' M M' ∧ BRC M' o (0, -1, -1)) nox := by
  have a0 : At Sh (o + 1) o _ := ⟨by omega, h0⟩
  refine Con.ofQ (by decide +kernel) (by simp [Value.category]) (Nat.le_of_ble_eq_true rfl) (fun k C0 Q hQ => ?_)
  have C : CK k E mX0_init kdX0_init 1 0 0 := ⟨C0, kdX0_init_ok⟩
  refine r_aload_n C 0 rfl rfl rfl rfl ?_
  refine r_oinit C rfl ol_X0 rfl (by decide) ?_
  refine r_aload_n C 0 rfl rfl rfl rfl ?_
  refine r_ic (v := (-1)) C rfl (by decide) ?_
  refine r_puti C rfl f_X0_9 (by assumption) rfl rfl rfl ?_
  refine r_aload_n C 0 rfl rfl rfl rfl ?_
  refine r_ic (v := (-1)) C rfl (by decide) ?_
  refine r_puti C rfl f_X0_15 (by assumption) rfl rfl rfl ?_
  refine q_vret C hQ rfl rfl ⟨rfl, rfl, rfl, fun c hc => ⟨rfl, ?_⟩, ?_, ?_, ?_⟩
  · rw [up_row _ _ (by omega), up_row _ _ (by omega)]
  · rw [up_ne _ _ (by omega), up_ne _ _ (by omega)]; exact hz
  · rw [up_ne _ _ (by omega), up_same]
  · rw [up_same]
theorem mk_houses (h0 : Sh o = .inr (3, [nul, nul, none, none, none, none])) (hz : M o 2 = 0) (wv cw : Nat → Int32) : Con E mX3_init 1 2 24 [.ref o] Sh (o + 1) true M (fun r Sh' N' M' => r = none ∧ N' = o + 3 ∧ Low o Sh Sh' M M' ∧ Sh' o = .inr (3, [some (.ref (o + 1)), some (.ref (o + 2)), none, none, none, none]) ∧ Sh' (o + 1) = arE 0 12 ∧ Sh' (o + 2) = arE 0 12 ∧ HOC M' o 0 wv cw) nox := by
  have a0 : At Sh (o + 1) o _ := ⟨by omega, h0⟩
  refine Con.ofQ (by decide +kernel) (by simp [Value.category]) (Nat.le_of_ble_eq_true rfl) (fun k C0 Q hQ => ?_)
  have C : CK k E mX3_init kdX3_init 1 2 24 := ⟨C0, kdX3_init_ok⟩
  refine r_aload_n C 0 rfl rfl rfl rfl ?_
  refine r_oinit C rfl ol_X3 rfl (by decide) ?_
  refine r_aload_n C 0 rfl rfl rfl rfl ?_
  refine r_bi (v := nI 12) C rfl (by decide) ?_
  refine r_newI C rfl rfl (by decide) (by omega) (by omega) ?_
  refine r_putv C rfl f_X3_9 (fun h => by cases h) (fun _ => rfl) (At.grow a0) (show 0 < 6 by decide) rfl rfl ?_
  refine r_aload_n C 0 rfl rfl rfl rfl ?_
  refine r_bi (v := nI 12) C rfl (by decide) ?_
  refine r_newI C rfl rfl (by decide) (by omega) (by omega) ?_
  refine r_putv C rfl f_X3_13 (fun h => by cases h) (fun _ => rfl) (At.grow (At.same (by omega))) (show 1 < 6 by decide) rfl rfl ?_
  refine q_vret C hQ rfl rfl ⟨rfl, rfl, fun c hc => ⟨?_, ?_⟩, ?_, ?_, ?_, ⟨by decide, ?_, fun i hi => absurd hi (Nat.not_lt_zero i)⟩⟩
  · repeat rw [shUp_ne (by omega)]
  · rw [aset_ne _ _ (by omega), aset_ne _ _ (by omega)]
  · rw [shUp_eq]; rfl
  · rw [shUp_ne (by omega), shUp_ne (by omega), shUp_ne (by omega), shUp_eq]
  · rw [shUp_ne (by omega)]; exact shUp_eq
  · rw [aset_ne _ _ (by omega), aset_ne _ _ (by omega)]; exact hz
theorem mk_guess (h0 : Sh o = .inr (2, [nul, nul])) (Cr : Nat → Int32) : Con E mX2_init 3 2 580 [.ref o] Sh (o + 1) true M (fun r Sh' N' M' => r = none ∧ N' = o + 3 ∧ Low o Sh Sh' M M' ∧ Sh' o = .inr (2, [some (.ref (o + 1)), some (.ref (o + 2))]) ∧ Sh' (o + 1) = arE 0 576 ∧ Sh' (o + 2) = arE 0 4 ∧ GC M' o (fun _ => none) Cr) nox := by
  have a0 : At Sh (o + 1) o _ := ⟨by omega, h0⟩
  refine Con.ofQ (by decide +kernel) (by simp [Value.category]) (Nat.le_of_ble_eq_true rfl) (fun k C0 Q hQ => ?_)
  have C : CK k E mX2_init kdX2_init 3 2 580 := ⟨C0, kdX2_init_ok⟩
  refine r_aload_n C 0 rfl rfl rfl rfl ?_
  refine r_oinit C rfl ol_X2 rfl (by decide) ?_
  refine r_aload_n C 0 rfl rfl rfl rfl ?_
  refine r_si (v := nI 576) C rfl (by decide) ?_
  refine r_newI C rfl rfl (by decide) (by omega) (by omega) ?_
  refine r_putv C rfl f_X2_11 (fun h => by cases h) (fun _ => rfl) (At.grow a0) (show 0 < 2 by decide) rfl rfl ?_
  refine r_aload_n C 0 rfl rfl rfl rfl ?_
  refine r_ic (v := nI 4) C rfl (by decide) ?_
  refine r_newI C rfl rfl (by decide) (by omega) (by omega) ?_
  refine r_putv C rfl f_X2_15 (fun h => by cases h) (fun _ => rfl) (At.grow (At.same (by omega))) (show 1 < 2 by decide) rfl rfl ?_
  refine r_aload_n C 0 rfl rfl rfl rfl ?_
  refine r_eqS ?_
  intro S1 M1 hS1 hM1
  have s0 : S1 o = .inr (2, [some (.ref (o + 1)), some (.ref (o + 2))]) := by rw [← hS1, shUp_eq]; rfl
  have s1 : S1 (o + 1) = arE 0 576 := by rw [← hS1, shUp_ne (by omega), shUp_ne (by omega), shUp_ne (by omega), shUp_eq]
  have s2 : S1 (o + 2) = arE 0 4 := by rw [← hS1, shUp_ne (by omega)]; exact shUp_eq
  have hA : KG S1 (o + 1 + 1 + 1) o := ⟨⟨by omega, s0⟩, ⟨by omega, s1⟩, ⟨by omega, s2⟩⟩
  have hA0 := hA.1
  refine v0_g C rfl mfX2_forget lk_X2_18 (by assumption) (g_forget hA Cr) ?_
  rintro v M2 ⟨rfl, hF2, hG2⟩
  refine q_vret C hQ rfl rfl ⟨rfl, rfl, fun c hc => ⟨?_, ?_⟩, s0, s1, s2, hG2⟩
  · rw [← hS1]
    repeat rw [shUp_ne (by omega)]
  · rw [hF2 c (by omega), ← hM1, aset_ne _ _ (by omega), aset_ne _ _ (by omega)]
end MAKE
