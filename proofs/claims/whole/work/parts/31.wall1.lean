section WALL1
variable {E : VE} {Sh : Nat → SE} {N : Nat} {G : Bool} {M : MM} {w yd : Nat} {R : Row}
theorem w_isHollow (hA : WA Sh N w yd) {x : Int32} (p : Nat) (hx : x = nI p) (hp : p < 144) : Con E mX8_isHollow 1 0 0 [.ref w, .int x] Sh N G (wset M w R) (P1 (some (.int (if R (181 + p) &&& nI 2 = nI 2 then 1 else 0))) Sh N (wset M w R)) nox := by
  subst hx
  obtain ⟨a0, a1, a2, a3, a4, a5⟩ := hA
  refine Con.ofQ (by decide +kernel) (by simp [Value.category]) (Nat.le_of_ble_eq_true rfl) (fun k C0 Q hQ => ?_)
  have C : CK k E mX8_isHollow kdX8_isHollow 1 0 0 := ⟨C0, kdX8_isHollow_ok⟩
  refine r_aload_n C 0 rfl rfl rfl rfl ?_
  refine r_getv C rfl f_X8_15 (by assumption) rfl ?_
  refine r_iload_n C 1 rfl rfl rfl ?_
  refine r_iald C rfl (by assumption) (p) rfl hp (by decide) ?_
  refine r_top _ (wg_m _ _ _ hp) ?_
  refine r_ic (v := nI 2) C rfl (by decide) ?_
  refine r_iand C rfl ?_
  refine r_if_eq C 15 rfl (by decide) (fun h => ?_) (fun h => ?_)
  · refine r_ic (v := nI 0) C rfl (by decide) ?_
    exact q_iret C hQ rfl rfl rfl ⟨by rw [if_neg (fun q => (hol_iff _).mp q h)]; rfl, rfl, rfl, rfl⟩
  · refine r_ic (v := nI 1) C rfl (by decide) ?_
    refine r_goto C 16 rfl (by decide) ?_
    exact q_iret C hQ rfl rfl rfl ⟨by rw [if_pos ((hol_iff _).mpr h)]; rfl, rfl, rfl, rfl⟩
theorem w_isCracked (hA : WA Sh N w yd) {x : Int32} (p : Nat) (hx : x = nI p) (hp : p < 144) : Con E mX8_isCracked 1 0 0 [.ref w, .int x] Sh N G (wset M w R) (P1 (some (.int (if R (181 + p) &&& nI 1 = nI 1 then 1 else 0))) Sh N (wset M w R)) nox := by
  subst hx
  obtain ⟨a0, a1, a2, a3, a4, a5⟩ := hA
  refine Con.ofQ (by decide +kernel) (by simp [Value.category]) (Nat.le_of_ble_eq_true rfl) (fun k C0 Q hQ => ?_)
  have C : CK k E mX8_isCracked kdX8_isCracked 1 0 0 := ⟨C0, kdX8_isCracked_ok⟩
  refine r_aload_n C 0 rfl rfl rfl rfl ?_
  refine r_getv C rfl f_X8_15 (by assumption) rfl ?_
  refine r_iload_n C 1 rfl rfl rfl ?_
  refine r_iald C rfl (by assumption) (p) rfl hp (by decide) ?_
  refine r_top _ (wg_m _ _ _ hp) ?_
  refine r_ic (v := nI 1) C rfl (by decide) ?_
  refine r_iand C rfl ?_
  refine r_if_eq C 15 rfl (by decide) (fun h => ?_) (fun h => ?_)
  · refine r_ic (v := nI 0) C rfl (by decide) ?_
    exact q_iret C hQ rfl rfl rfl ⟨by rw [if_neg (fun q => (crk_iff _).mp q h)]; rfl, rfl, rfl, rfl⟩
  · refine r_ic (v := nI 1) C rfl (by decide) ?_
    refine r_goto C 16 rfl (by decide) ?_
    exact q_iret C hQ rfl rfl rfl ⟨by rw [if_pos ((crk_iff _).mpr h)]; rfl, rfl, rfl, rfl⟩
theorem w_stiff (hA : WA Sh N w yd) {x : Int32} (p : Nat) (hx : x = nI p) (hp : p < 144) : Con E mX8_stiffness 1 0 0 [.ref w, .int x] Sh N G (wset M w R) (P1 (some (.int (if nI 180 ≤ R (37 + p) then nI 2 else if nI 120 < R (37 + p) then nI 1 else nI 0))) Sh N (wset M w R)) nox := by
  subst hx
  obtain ⟨a0, a1, a2, a3, a4, a5⟩ := hA
  refine Con.ofQ (by decide +kernel) (by simp [Value.category]) (Nat.le_of_ble_eq_true rfl) (fun k C0 Q hQ => ?_)
  have C : CK k E mX8_stiffness kdX8_stiffness 1 0 0 := ⟨C0, kdX8_stiffness_ok⟩
  refine r_aload_n C 0 rfl rfl rfl rfl ?_
  refine r_getv C rfl f_X8_9 (by assumption) rfl ?_
  refine r_iload_n C 1 rfl rfl rfl ?_
  refine r_iald C rfl (by assumption) (p) rfl hp (by decide) ?_
  refine r_top _ (wg_w _ _ _ hp) ?_
  refine r_si (v := nI 180) C rfl (by decide) ?_
  refine r_icmp_lt C 14 rfl (by decide) (fun h => ?_) (fun h => ?_)
  · refine r_aload_n C 0 rfl rfl rfl rfl ?_
    refine r_getv C rfl f_X8_9 (by assumption) rfl ?_
    refine r_iload_n C 1 rfl rfl rfl ?_
    refine r_iald C rfl (by assumption) (p) rfl hp (by decide) ?_
    refine r_top _ (wg_w _ _ _ hp) ?_
    refine r_bi (v := nI 120) C rfl (by decide) ?_
    refine r_icmp_gt C 29 rfl (by decide) (fun h2 => ?_) (fun h2 => ?_)
    · refine r_ic (v := nI 1) C rfl (by decide) ?_
      exact q_iret C hQ rfl rfl rfl ⟨by rw [if_neg (Int32.not_le.mpr h), if_pos h2], rfl, rfl, rfl⟩
    · refine r_ic (v := nI 0) C rfl (by decide) ?_
      refine r_goto C 30 rfl (by decide) ?_
      exact q_iret C hQ rfl rfl rfl ⟨by rw [if_neg (Int32.not_le.mpr h), if_neg h2], rfl, rfl, rfl⟩
  · refine r_ic (v := nI 2) C rfl (by decide) ?_
    exact q_iret C hQ rfl rfl rfl ⟨by rw [if_pos (Int32.not_lt.mp h)], rfl, rfl, rfl⟩
theorem clip (x : Int32) : (if x < 0 then nI 0 else if nI 60 < x then nI 60 else x) = mx 0 (mi (nI 60) x) := by
  have z : (nI 60).toInt = 60 := by decide
  have z0 : (0 : Int32).toInt = 0 := by decide
  simp only [mx, mi, Int32.lt_iff_toInt_lt, z, z0]
  by_cases h3 : x.toInt < 60
  · simp only [if_pos h3]
    rw [if_neg (show ¬ 60 < x.toInt by omega)]
    by_cases h : x.toInt < 0
    · rw [if_pos h, if_neg (by omega)]; rfl
    · rw [if_neg h]
      by_cases h4 : 0 < x.toInt
      · rw [if_pos h4]
      · rw [if_neg h4]
        exact Int32.toInt_inj.mp (by rw [z0]; omega)
  · simp only [if_neg h3, z]
    rw [if_neg (show ¬ x.toInt < 0 by omega), if_pos (show (0 : Int) < 60 by decide)]
    by_cases h2 : 60 < x.toInt
    · rw [if_pos h2]
    · rw [if_neg h2]
      exact Int32.toInt_inj.mp (by rw [z]; omega)
theorem w_strength (hA : WA Sh N w yd) {x : Int32} (p : Nat) (hx : x = nI p) (hp : p < 144) : Con E mX8_strength 1 0 0 [.ref w, .int x] Sh N G (wset M w R) (P1 (some (.int (strg (M yd 8) (M yd 6) R p))) Sh N (wset M w R)) nox := by
  subst hx
  obtain ⟨a0, a1, a2, a3, ⟨b0, b1, b2, b3⟩, a5⟩ := hA
  refine Con.ofQ (by decide +kernel) (by simp [Value.category]) (Nat.le_of_ble_eq_true rfl) (fun k C0 Q hQ => ?_)
  have C : CK k E mX8_strength kdX8_strength 1 0 0 := ⟨C0, kdX8_strength_ok⟩
  refine r_aload_n C 0 rfl rfl rfl rfl ?_
  refine r_getv C rfl f_X8_15 (by assumption) rfl ?_
  refine r_iload_n C 1 rfl rfl rfl ?_
  refine r_iald C rfl (by assumption) (p) rfl hp (by decide) ?_
  refine r_top _ (wg_m _ _ _ hp) ?_
  refine r_ic (v := nI 2) C rfl (by decide) ?_
  refine r_iand C rfl ?_
  refine r_if_eq C 13 rfl (by decide) (fun h => ?_) (fun h => ?_)
  · have h : ¬ R (181 + p) &&& nI 2 = nI 2 := fun q => (hol_iff _).mp q h
    have k44 : ∀ z : Int32, z = mx 0 (mi (nI 60) (nI 180 - R (37 + p))) → PT k E Q 0 0 Sh N G (wset M w R) 44 [some (.ref w), some (.int (nI p)), some (.int (nI 180 - R (37 + p))), none, none] [.int z] := by
      intro z hz
      refine r_istore_n C 3 rfl rfl (by exact Nat.le_of_ble_eq_true rfl) ?_
      refine r_aload_n C 0 rfl rfl rfl rfl ?_
      refine r_getv C rfl f_X8_25 (by assumption) rfl ?_
      refine r_geti C rfl f_X8_97 (by assumption) rfl ?_
      refine r_top _ (wset_lo _ _ (by omega)) ?_
      refine r_aload_n C 0 rfl rfl rfl rfl ?_
      refine r_getv C rfl f_X8_25 (by assumption) rfl ?_
      refine r_geti C rfl f_X8_100 (by assumption) rfl ?_
      refine r_top _ (wset_lo _ _ (by omega)) ?_
      refine r_iload_n C 3 rfl rfl rfl ?_
      refine r_imul C rfl ?_
      refine r_bi (v := nI 60) C rfl (by decide) ?_
      refine r_idiv C rfl (by decide) ?_
      refine r_iadd C rfl ?_
      refine r_istore C rfl (by exact Nat.le_of_ble_eq_true rfl) ?_
      refine r_aload_n C 0 rfl rfl rfl rfl ?_
      refine r_getv C rfl f_X8_15 (by assumption) rfl ?_
      refine r_iload_n C 1 rfl rfl rfl ?_
      refine r_iald C rfl (by assumption) (p) rfl hp (by decide) ?_
      refine r_top _ (wg_m _ _ _ hp) ?_
      refine r_ic (v := nI 1) C rfl (by decide) ?_
      refine r_iand C rfl ?_
      refine r_if_eq C 85 rfl (by decide) (fun h2 => ?_) (fun h2 => ?_)
      · have h2 : ¬ R (181 + p) &&& nI 1 = nI 1 := fun q => (crk_iff _).mp q h2
        refine r_iload C rfl rfl ?_
        exact q_iret C hQ rfl rfl rfl ⟨by rw [strg, if_neg h, if_neg h2, hz], rfl, rfl, rfl⟩
      · have h2 := (crk_iff _).mpr h2
        refine r_iload C rfl rfl ?_
        refine r_ic (v := nI 2) C rfl (by decide) ?_
        refine r_idiv C rfl (by decide) ?_
        refine r_goto C 87 rfl (by decide) ?_
        exact q_iret C hQ rfl rfl rfl ⟨by rw [strg, if_neg h, if_pos h2, hz], rfl, rfl, rfl⟩
    refine r_si (v := nI 180) C rfl (by decide) ?_
    refine r_aload_n C 0 rfl rfl rfl rfl ?_
    refine r_getv C rfl f_X8_9 (by assumption) rfl ?_
    refine r_iload_n C 1 rfl rfl rfl ?_
    refine r_iald C rfl (by assumption) (p) rfl hp (by decide) ?_
    refine r_top _ (wg_w _ _ _ hp) ?_
    refine r_isub C rfl ?_
    refine r_istore_n C 2 rfl rfl (by exact Nat.le_of_ble_eq_true rfl) ?_
    refine r_iload_n C 2 rfl rfl rfl ?_
    refine r_if_ge C 32 rfl (by decide) (fun h2 => ?_) (fun h2 => ?_)
    · refine r_iload_n C 2 rfl rfl rfl ?_
      refine r_bi (v := nI 60) C rfl (by decide) ?_
      refine r_icmp_le C 43 rfl (by decide) (fun h3 => ?_) (fun h3 => ?_)
      · refine r_iload_n C 2 rfl rfl rfl ?_
        exact k44 _ (by rw [← clip, if_neg (Int32.not_lt.mpr h2), if_neg (Int32.not_lt.mpr h3)])
      · refine r_bi (v := nI 60) C rfl (by decide) ?_
        refine r_goto C 44 rfl (by decide) ?_
        exact k44 _ (by rw [← clip, if_neg (Int32.not_lt.mpr h2), if_pos (Int32.not_le.mp h3)])
    · refine r_ic (v := nI 0) C rfl (by decide) ?_
      refine r_goto C 44 rfl (by decide) ?_
      exact k44 _ (by rw [← clip, if_pos (Int32.not_le.mp h2)])
  · refine r_ic (v := nI 0) C rfl (by decide) ?_
    exact q_iret C hQ rfl rfl rfl ⟨by rw [strg, if_pos ((hol_iff _).mpr h)]; rfl, rfl, rfl, rfl⟩
theorem w_load (hA : WA Sh N w yd) {x : Int32} (p : Nat) (hx : x = nI p) (hp : p < 144) : Con E mX8_load 1 0 0 [.ref w, .int x] Sh N G (wset M w R) (P1 (some (.int (lod R p))) Sh N (wset M w R)) nox := by
  subst hx
  obtain ⟨a0, a1, a2, a3, a4, a5⟩ := hA
  refine Con.ofQ (by decide +kernel) (by simp [Value.category]) (Nat.le_of_ble_eq_true rfl) (fun k C0 Q hQ => ?_)
  have C : CK k E mX8_load kdX8_load 1 0 0 := ⟨C0, kdX8_load_ok⟩
  refine r_aload_n C 0 rfl rfl rfl rfl ?_
  refine r_getv C rfl f_X8_15 (by assumption) rfl ?_
  refine r_iload_n C 1 rfl rfl rfl ?_
  refine r_iald C rfl (by assumption) (p) rfl hp (by decide) ?_
  refine r_top _ (wg_m _ _ _ hp) ?_
  refine r_ic (v := nI 2) C rfl (by decide) ?_
  refine r_iand C rfl ?_
  refine r_if_eq C 15 rfl (by decide) (fun h => ?_) (fun h => ?_)
  · refine r_bi (v := nI 10) C rfl (by decide) ?_
    refine r_aload_n C 0 rfl rfl rfl rfl ?_
    refine r_getv C rfl f_X8_9 (by assumption) rfl ?_
    refine r_iload_n C 1 rfl rfl rfl ?_
    refine r_iald C rfl (by assumption) (p) rfl hp (by decide) ?_
    refine r_top _ (wg_w _ _ _ hp) ?_
    refine r_bi (v := nI 50) C rfl (by decide) ?_
    refine r_idiv C rfl (by decide) ?_
    refine r_iadd C rfl ?_
    exact q_iret C hQ rfl rfl rfl ⟨by rw [lod, if_neg (fun q => (hol_iff _).mp q h)], rfl, rfl, rfl⟩
  · refine r_ic (v := nI 0) C rfl (by decide) ?_
    refine r_goto C 27 rfl (by decide) ?_
    exact q_iret C hQ rfl rfl rfl ⟨by rw [lod, if_pos ((hol_iff _).mpr h)]; rfl, rfl, rfl, rfl⟩
theorem w_propBears (hA : WA Sh N w yd) (h7 : R 7 = 0 ∨ R 7 = 1) : Con E mX8_propBears 1 0 0 [.ref w] Sh N G (wset M w R) (P1 (some (.int (R 7 * nI 50))) Sh N (wset M w R)) nox := by
  obtain ⟨a0, a1, a2, a3, a4, a5⟩ := hA
  refine Con.ofQ (by decide +kernel) (by simp [Value.category]) (Nat.le_of_ble_eq_true rfl) (fun k C0 Q hQ => ?_)
  have C : CK k E mX8_propBears kdX8_propBears 1 0 0 := ⟨C0, kdX8_propBears_ok⟩
  refine r_aload_n C 0 rfl rfl rfl rfl ?_
  refine r_geti C rfl f_X8_59 (by assumption) rfl ?_
  refine r_top _ (wg_11 _ _ _) ?_
  refine r_if_eq C 12 rfl (by decide) (fun h => ?_) (fun h => ?_)
  · refine r_ic (v := nI 0) C rfl (by decide) ?_
    exact q_iret C hQ rfl rfl rfl ⟨by rw [h]; rfl, rfl, rfl, rfl⟩
  · refine r_bi (v := nI 50) C rfl (by decide) ?_
    refine r_goto C 13 rfl (by decide) ?_
    have h : R 7 = 1 := h7.resolve_left h
    exact q_iret C hQ rfl rfl rfl ⟨by rw [h]; rfl, rfl, rfl, rfl⟩
theorem w_bears (hA : WA Sh N w yd) {x : Int32} (dp mn l : Nat) (hW : WF R dp mn) (h7 : R 7 = 0 ∨ R 7 = 1) (hx : x = nI l) (hl : l < 24) : Con E mX8_bears 2 0 0 [.ref w, .int x] Sh N G (wset M w R) (P1 (some (.int (bear (M yd 8) (M yd 6) R dp l))) Sh N (wset M w R)) nox := by
  subst hx
  obtain ⟨w0, w1, w2, w3, w4⟩ := hW
  have hA' := hA
  obtain ⟨a0, a1, a2, a3, a4, a5⟩ := hA
  refine Con.ofQ (by decide +kernel) (by simp [Value.category]) (Nat.le_of_ble_eq_true rfl) (fun k C0 Q hQ => ?_)
  have C : CK k E mX8_bears kdX8_bears 2 0 0 := ⟨C0, kdX8_bears_ok⟩
  have loop : ∀ n c : Nat, c ≤ dp → dp - c < n → PT k E Q 0 0 Sh N G (wset M w R) 13 [some (.ref w), some (.int (nI l)), some (.int (nI (6 * l))), some (.int (R 7 * nI 50 + sm (fun c => strg (M yd 8) (M yd 6) R (6 * l + c)) c)), some (.int (nI (6 * l + c)))] [] := by
    intro n
    induction n with
    | zero => intro i _ h; omega
    | succ n ih =>
      intro c hc hn
      refine r_iload C rfl rfl ?_
      refine r_iload_n C 2 rfl rfl rfl ?_
      refine r_aload_n C 0 rfl rfl rfl rfl ?_
      refine r_geti C rfl f_X8_21 (by assumption) rfl ?_
      refine r_top _ (wg_4 _ _ _) ?_
      refine r_iadd C rfl ?_
      refine r_top (nI (6 * l + dp)) (by rw [w0, nI_add]) ?_
      refine r_icmp_ge C 39 rfl (by decide) (fun h => ?_) (fun h => ?_)
      · have h := le_nI (by omega) (by omega) h
        have e : c = dp := by omega
        subst e
        refine r_iload_n C 3 rfl rfl rfl ?_
        exact q_iret C hQ rfl rfl rfl ⟨rfl, rfl, rfl, rfl⟩
      · have h := nle_nI (by omega) (by omega) h
        refine r_iload_n C 3 rfl rfl rfl ?_
        refine r_aload_n C 0 rfl rfl rfl rfl ?_
        refine r_iload C rfl rfl ?_
        refine v1_r C rfl mfX8_strength lk_X8_107 (by assumption) (w_strength hA' (6 * l + c) rfl (by omega)) ?_
        refine r_iadd C rfl ?_
        refine r_istore_n C 3 rfl rfl (by exact Nat.le_of_ble_eq_true rfl) ?_
        refine r_iinc (c := nI 1) C rfl rfl (by decide) ?_
        refine r_goto C 13 rfl (by decide) ?_
        refine r_eqL ?_ (ih (c + 1) (by omega) (by omega))
        rw [show 6 * l + (c + 1) = 6 * l + c + 1 by omega]
        first | rfl | (simp only [sm, add3, nI_add, Int32.add_zero, Int32.zero_add]; rfl)
  refine r_iload_n C 1 rfl rfl rfl ?_
  refine r_bi (v := nI 6) C rfl (by decide) ?_
  refine r_imul C rfl ?_
  refine r_top (nI (6 * l)) (by rw [pk_mul, Nat.mul_comm]) ?_
  refine r_istore_n C 2 rfl rfl (by exact Nat.le_of_ble_eq_true rfl) ?_
  refine r_aload_n C 0 rfl rfl rfl rfl ?_
  refine v0_r C rfl mfX8_propBears lk_X8_103 (by assumption) (w_propBears hA' h7) ?_
  refine r_istore_n C 3 rfl rfl (by exact Nat.le_of_ble_eq_true rfl) ?_
  refine r_iload_n C 2 rfl rfl rfl ?_
  refine r_istore C rfl (by exact Nat.le_of_ble_eq_true rfl) ?_
  exact r_eqL (by first | rfl | (simp only [sm, Int32.add_zero]; rfl)) (loop (dp + 1) 0 (by omega) (by omega))
theorem w_loads (hA : WA Sh N w yd) {x : Int32} (dp mn l : Nat) (hW : WF R dp mn) (hx : x = nI l) (hl : l < 24) : Con E mX8_loads 2 0 0 [.ref w, .int x] Sh N G (wset M w R) (P1 (some (.int (lods R dp l))) Sh N (wset M w R)) nox := by
  subst hx
  obtain ⟨w0, w1, w2, w3, w4⟩ := hW
  have hA' := hA
  obtain ⟨a0, a1, a2, a3, a4, a5⟩ := hA
  refine Con.ofQ (by decide +kernel) (by simp [Value.category]) (Nat.le_of_ble_eq_true rfl) (fun k C0 Q hQ => ?_)
  have C : CK k E mX8_loads kdX8_loads 2 0 0 := ⟨C0, kdX8_loads_ok⟩
  have loop : ∀ n c : Nat, c ≤ dp → dp - c < n → PT k E Q 0 0 Sh N G (wset M w R) 10 [some (.ref w), some (.int (nI l)), some (.int (nI (6 * l))), some (.int (sm (fun c => lod R (6 * l + c)) c)), some (.int (nI (6 * l + c)))] [] := by
    intro n
    induction n with
    | zero => intro i _ h; omega
    | succ n ih =>
      intro c hc hn
      refine r_iload C rfl rfl ?_
      refine r_iload_n C 2 rfl rfl rfl ?_
      refine r_aload_n C 0 rfl rfl rfl rfl ?_
      refine r_geti C rfl f_X8_21 (by assumption) rfl ?_
      refine r_top _ (wg_4 _ _ _) ?_
      refine r_iadd C rfl ?_
      refine r_top (nI (6 * l + dp)) (by rw [w0, nI_add]) ?_
      refine r_icmp_ge C 36 rfl (by decide) (fun h => ?_) (fun h => ?_)
      · have h := le_nI (by omega) (by omega) h
        have e : c = dp := by omega
        subst e
        refine r_iload_n C 3 rfl rfl rfl ?_
        exact q_iret C hQ rfl rfl rfl ⟨rfl, rfl, rfl, rfl⟩
      · have h := nle_nI (by omega) (by omega) h
        refine r_iload_n C 3 rfl rfl rfl ?_
        refine r_aload_n C 0 rfl rfl rfl rfl ?_
        refine r_iload C rfl rfl ?_
        refine v1_r C rfl mfX8_load lk_X8_110 (by assumption) (w_load hA' (6 * l + c) rfl (by omega)) ?_
        refine r_iadd C rfl ?_
        refine r_istore_n C 3 rfl rfl (by exact Nat.le_of_ble_eq_true rfl) ?_
        refine r_iinc (c := nI 1) C rfl rfl (by decide) ?_
        refine r_goto C 10 rfl (by decide) ?_
        refine r_eqL ?_ (ih (c + 1) (by omega) (by omega))
        rw [show 6 * l + (c + 1) = 6 * l + c + 1 by omega]
        first | rfl | (simp only [sm, add3, nI_add, Int32.add_zero, Int32.zero_add]; rfl)
  refine r_iload_n C 1 rfl rfl rfl ?_
  refine r_bi (v := nI 6) C rfl (by decide) ?_
  refine r_imul C rfl ?_
  refine r_top (nI (6 * l)) (by rw [pk_mul, Nat.mul_comm]) ?_
  refine r_istore_n C 2 rfl rfl (by exact Nat.le_of_ble_eq_true rfl) ?_
  refine r_ic (v := nI 0) C rfl (by decide) ?_
  refine r_istore_n C 3 rfl rfl (by exact Nat.le_of_ble_eq_true rfl) ?_
  refine r_iload_n C 2 rfl rfl rfl ?_
  refine r_istore C rfl (by exact Nat.le_of_ble_eq_true rfl) ?_
  exact loop (dp + 1) 0 (by omega) (by omega)
theorem w_presses (hA : WA Sh N w yd) {x : Int32} (dp mn l : Nat) (hW : WF R dp mn) (hx : x = nI l) (hl : l < mn) : Con E mX8_presses 3 0 0 [.ref w, .int x] Sh N G (wset M w R) (P1 (some (.int (prs R dp l (mn - 1 - l)))) Sh N (wset M w R)) nox := by
  subst hx
  have hW' := hW
  obtain ⟨w0, w1, w2, w3, w4⟩ := hW
  have hA' := hA
  obtain ⟨a0, a1, a2, a3, a4, a5⟩ := hA
  refine Con.ofQ (by decide +kernel) (by simp [Value.category]) (Nat.le_of_ble_eq_true rfl) (fun k C0 Q hQ => ?_)
  have C : CK k E mX8_presses kdX8_presses 3 0 0 := ⟨C0, kdX8_presses_ok⟩
  have loop : ∀ n i : Nat, l + 1 + i ≤ mn → mn - (l + 1 + i) < n → PT k E Q 0 0 Sh N G (wset M w R) 6 [some (.ref w), some (.int (nI l)), some (.int (prs R dp l i)), some (.int (nI (l + 1 + i)))] [] := by
    intro n
    induction n with
    | zero => intro i _ h; omega
    | succ n ih =>
      intro i hi hn
      refine r_iload_n C 3 rfl rfl rfl ?_
      refine r_aload_n C 0 rfl rfl rfl rfl ?_
      refine r_geti C rfl f_X8_62 (by assumption) rfl ?_
      refine r_top _ (wg_5 _ _ _) ?_
      refine r_top (nI mn) w3 ?_
      refine r_icmp_ge C 28 rfl (by decide) (fun h => ?_) (fun h => ?_)
      · have h := le_nI (by omega) (by omega) h
        refine r_iload_n C 2 rfl rfl rfl ?_
        exact q_iret C hQ rfl rfl rfl ⟨by rw [show mn - 1 - l = i by omega], rfl, rfl, rfl⟩
      · have h := nle_nI (by omega) (by omega) h
        refine r_iload_n C 2 rfl rfl rfl ?_
        refine r_aload_n C 0 rfl rfl rfl rfl ?_
        refine r_iload_n C 3 rfl rfl rfl ?_
        refine v1_r C rfl mfX8_loads lk_X8_113 (by assumption) (w_loads hA' dp mn (l + 1 + i) hW' rfl (by omega)) ?_
        refine r_iadd C rfl ?_
        refine r_istore_n C 2 rfl rfl (by exact Nat.le_of_ble_eq_true rfl) ?_
        refine r_iinc (c := nI 1) C rfl rfl (by decide) ?_
        refine r_goto C 6 rfl (by decide) ?_
        refine r_eqL ?_ (ih (i + 1) (by omega) (by omega))
        rw [show l + 1 + (i + 1) = l + 1 + i + 1 by omega]
        simp only [nI_add]
        rfl
  refine r_ic (v := nI 0) C rfl (by decide) ?_
  refine r_istore_n C 2 rfl rfl (by exact Nat.le_of_ble_eq_true rfl) ?_
  refine r_iload_n C 1 rfl rfl rfl ?_
  refine r_ic (v := nI 1) C rfl (by decide) ?_
  refine r_iadd C rfl ?_
  refine r_istore_n C 3 rfl rfl (by exact Nat.le_of_ble_eq_true rfl) ?_
  refine r_eqL ?_ (loop (mn + 1) 0 (by omega) (by omega))
  simp only [nI_add]
  rfl
theorem w_pour (hA : WA Sh N w yd) {x v : Int32} (p : Nat) (hx : x = nI p) (hp : p < 144) : Con E mX8_pour 1 0 0 [.ref w, .int x, .int v] Sh N G (wset M w R) (P1 none Sh N (wset M w (wetS p v R))) nox := by
  subst hx
  obtain ⟨a0, a1, a2, a3, a4, a5⟩ := hA
  refine Con.ofQ (by decide +kernel) (by simp [Value.category]) (Nat.le_of_ble_eq_true rfl) (fun k C0 Q hQ => ?_)
  have C : CK k E mX8_pour kdX8_pour 1 0 0 := ⟨C0, kdX8_pour_ok⟩
  refine r_iload_n C 2 rfl rfl rfl ?_
  refine r_si (v := nI 400) C rfl (by decide) ?_
  refine r_aload_n C 0 rfl rfl rfl rfl ?_
  refine r_getv C rfl f_X8_9 (by assumption) rfl ?_
  refine r_iload_n C 1 rfl rfl rfl ?_
  refine r_iald C rfl (by assumption) (p) rfl hp (by decide) ?_
  refine r_top _ (wg_w _ _ _ hp) ?_
  refine r_isub C rfl ?_
  refine r_min C rfl lk_X8_34 ?_
  refine r_istore_n C 3 rfl rfl (by exact Nat.le_of_ble_eq_true rfl) ?_
  refine r_aload_n C 0 rfl rfl rfl rfl ?_
  refine r_getv C rfl f_X8_9 (by assumption) rfl ?_
  refine r_iload_n C 1 rfl rfl rfl ?_
  refine r_dup2 C rfl rfl rfl ?_
  refine r_iald C rfl (by assumption) (p) rfl hp (by decide) ?_
  refine r_top _ (wg_w _ _ _ hp) ?_
  refine r_iload_n C 3 rfl rfl rfl ?_
  refine r_iadd C rfl ?_
  refine r_iast C rfl (by assumption) (p) rfl hp (by decide) ?_
  refine r_eqM (wp_w _ _ _ _ hp) ?_
  refine r_aload_n C 0 rfl rfl rfl rfl ?_
  refine r_dup C rfl rfl ?_
  refine r_geti C rfl f_X8_74 (by assumption) rfl ?_
  refine r_top _ (wg_15 _ _ _) ?_
  refine r_iload_n C 3 rfl rfl rfl ?_
  refine r_iadd C rfl ?_
  refine r_puti C rfl f_X8_74 (by assumption) rfl rfl rfl ?_
  refine r_eqM (wp_15 _ _ _ _) ?_
  refine q_vret C hQ rfl rfl ⟨rfl, rfl, rfl, ?_⟩
  rw [wetS]
  congr 2
  simp only [upd]
  rw [if_neg (by omega)]
theorem w_crack (hA : WA Sh N w yd) {x : Int32} (p : Nat) (hx : x = nI p) (hp : p < 144) : Con E mX8_crack 1 0 0 [.ref w, .int x] Sh N G (wset M w R) (P1 none Sh N (wset M w (upd R (181 + p) (R (181 + p) ||| nI 1)))) nox := by
  subst hx
  obtain ⟨a0, a1, a2, a3, a4, a5⟩ := hA
  refine Con.ofQ (by decide +kernel) (by simp [Value.category]) (Nat.le_of_ble_eq_true rfl) (fun k C0 Q hQ => ?_)
  have C : CK k E mX8_crack kdX8_crack 1 0 0 := ⟨C0, kdX8_crack_ok⟩
  refine r_aload_n C 0 rfl rfl rfl rfl ?_
  refine r_getv C rfl f_X8_15 (by assumption) rfl ?_
  refine r_iload_n C 1 rfl rfl rfl ?_
  refine r_dup2 C rfl rfl rfl ?_
  refine r_iald C rfl (by assumption) (p) rfl hp (by decide) ?_
  refine r_top _ (wg_m _ _ _ hp) ?_
  refine r_ic (v := nI 1) C rfl (by decide) ?_
  refine r_ior C rfl ?_
  refine r_iast C rfl (by assumption) (p) rfl hp (by decide) ?_
  refine r_eqM (wp_m _ _ _ _ hp) ?_
  exact q_vret C hQ rfl rfl ⟨rfl, rfl, rfl, rfl⟩
theorem w_makeHollow (hA : WA Sh N w yd) {x : Int32} (p : Nat) (hx : x = nI p) (hp : p < 144) : Con E mX8_makeHollow 1 0 0 [.ref w, .int x] Sh N G (wset M w R) (P1 none Sh N (wset M w (upd R (181 + p) (R (181 + p) ||| nI 2)))) nox := by
  subst hx
  obtain ⟨a0, a1, a2, a3, a4, a5⟩ := hA
  refine Con.ofQ (by decide +kernel) (by simp [Value.category]) (Nat.le_of_ble_eq_true rfl) (fun k C0 Q hQ => ?_)
  have C : CK k E mX8_makeHollow kdX8_makeHollow 1 0 0 := ⟨C0, kdX8_makeHollow_ok⟩
  refine r_aload_n C 0 rfl rfl rfl rfl ?_
  refine r_getv C rfl f_X8_15 (by assumption) rfl ?_
  refine r_iload_n C 1 rfl rfl rfl ?_
  refine r_dup2 C rfl rfl rfl ?_
  refine r_iald C rfl (by assumption) (p) rfl hp (by decide) ?_
  refine r_top _ (wg_m _ _ _ hp) ?_
  refine r_ic (v := nI 2) C rfl (by decide) ?_
  refine r_ior C rfl ?_
  refine r_iast C rfl (by assumption) (p) rfl hp (by decide) ?_
  refine r_eqM (wp_m _ _ _ _ hp) ?_
  exact q_vret C hQ rfl rfl ⟨rfl, rfl, rfl, rfl⟩
theorem w_evaporate (hA : WA Sh N w yd) {x v : Int32} (p : Nat) (hx : x = nI p) (hp : p < 144) : Con E mX8_evaporate 1 0 0 [.ref w, .int x, .int v] Sh N G (wset M w R) (P1 none Sh N (wset M w (upd (upd R (37 + p) (R (37 + p) - mi v (R (37 + p)))) 12 (R 12 + mi v (R (37 + p)))))) nox := by
  subst hx
  obtain ⟨a0, a1, a2, a3, a4, a5⟩ := hA
  refine Con.ofQ (by decide +kernel) (by simp [Value.category]) (Nat.le_of_ble_eq_true rfl) (fun k C0 Q hQ => ?_)
  have C : CK k E mX8_evaporate kdX8_evaporate 1 0 0 := ⟨C0, kdX8_evaporate_ok⟩
  refine r_iload_n C 2 rfl rfl rfl ?_
  refine r_aload_n C 0 rfl rfl rfl rfl ?_
  refine r_getv C rfl f_X8_9 (by assumption) rfl ?_
  refine r_iload_n C 1 rfl rfl rfl ?_
  refine r_iald C rfl (by assumption) (p) rfl hp (by decide) ?_
  refine r_top _ (wg_w _ _ _ hp) ?_
  refine r_min C rfl lk_X8_34 ?_
  refine r_istore_n C 3 rfl rfl (by exact Nat.le_of_ble_eq_true rfl) ?_
  refine r_aload_n C 0 rfl rfl rfl rfl ?_
  refine r_getv C rfl f_X8_9 (by assumption) rfl ?_
  refine r_iload_n C 1 rfl rfl rfl ?_
  refine r_dup2 C rfl rfl rfl ?_
  refine r_iald C rfl (by assumption) (p) rfl hp (by decide) ?_
  refine r_top _ (wg_w _ _ _ hp) ?_
  refine r_iload_n C 3 rfl rfl rfl ?_
  refine r_isub C rfl ?_
  refine r_iast C rfl (by assumption) (p) rfl hp (by decide) ?_
  refine r_eqM (wp_w _ _ _ _ hp) ?_
  refine r_aload_n C 0 rfl rfl rfl rfl ?_
  refine r_dup C rfl rfl ?_
  refine r_geti C rfl f_X8_77 (by assumption) rfl ?_
  refine r_top _ (wg_16 _ _ _) ?_
  refine r_iload_n C 3 rfl rfl rfl ?_
  refine r_iadd C rfl ?_
  refine r_puti C rfl f_X8_77 (by assumption) rfl rfl rfl ?_
  refine r_eqM (wp_16 _ _ _ _) ?_
  refine q_vret C hQ rfl rfl ⟨rfl, rfl, rfl, ?_⟩
  congr 2
  simp only [upd]
  rw [if_neg (by omega)]
end WALL1
