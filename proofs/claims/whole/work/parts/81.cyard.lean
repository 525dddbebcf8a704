section CYARD
variable {E : VE} {Sh : Nat → SE} {N : Nat} {G : Bool} {M M' M'' : MM} {kr tx yd gd n w : Nat} {β : Nat → Int32} {σ σ' : RdS} {D : DR}
theorem y_clear (hA : YA Sh N yd) {tr wk : Nat → Nat} (h2 : ∀ i, i < 24 → M (yd + 2) i = nI (tr i)) (h3 : ∀ i, i < 90 → M (yd + 3) i = nI (wk i)) : Con E mX10_clear 2 0 0 [.ref yd] Sh N G M (PR Sh N (fun v M' => v = none ∧ (∀ c, c ≠ yd → c ≠ yd + 1 → M' c = M c) ∧ YDr M' yd (false, (30, 50, 5), (0, tr), (0, wk)))) nox := by
  obtain ⟨a0, a1, a2, a3⟩ := id hA
  refine Con.ofQ (by decide +kernel) (by simp [Value.category]) (Nat.le_of_ble_eq_true rfl) (fun k C0 Q hQ => ?_)
  have C : CK k E mX10_clear kdX10_clear 2 0 0 := ⟨C0, kdX10_clear_ok⟩
  refine r_aload_n C 0 rfl rfl rfl rfl ?_
  refine r_bi (v := nI 30) C rfl (by decide) ?_
  refine r_bi (v := nI 50) C rfl (by decide) ?_
  refine r_ic (v := nI 5) C rfl (by decide) ?_
  refine v3_v C rfl mfX10_setEarth lk_X10_24 (by assumption) (y_setEarth hA _ _ _) ?_
  refine r_aload_n C 0 rfl rfl rfl rfl ?_
  refine r_ic (v := nI 0) C rfl (by decide) ?_
  refine r_puti C rfl f_X10_28 (by assumption) rfl rfl rfl ?_
  refine r_aload_n C 0 rfl rfl rfl rfl ?_
  refine r_ic (v := nI 0) C rfl (by decide) ?_
  refine r_puti C rfl f_X10_32 (by assumption) rfl rfl rfl ?_
  refine r_aload_n C 0 rfl rfl rfl rfl ?_
  refine r_ic (v := nI 0) C rfl (by decide) ?_
  refine r_puti C rfl f_X10_36 (by assumption) rfl rfl rfl ?_
  refine q_vret C hQ rfl rfl ⟨rfl, rfl, rfl, fun c q1 q2 => by rw [up_row _ _ q1, up_row _ _ q1, up_row _ _ q1]; exact earM_row q1 q2, ?_⟩
  have e := earM_ear (M := M) (yd := yd) (nI 30) (nI 50) (nI 5)
  obtain ⟨⟨e1, e2, e3⟩, e4, e5, e6⟩ := e
  refine ⟨?_, ?_, ?_, ⟨⟨?_, ?_, ?_⟩, ?_, ?_, ?_⟩, fun i hi => ?_, fun i hi => ?_⟩
  · rw [up_ne _ _ (by omega), up_ne _ _ (by omega), up_same]; rfl
  · rw [up_ne _ _ (by omega), up_same]
  · rw [up_same]
  · rw [up_row _ _ (by omega), up_row _ _ (by omega), up_row _ _ (by omega)]; exact e1
  · rw [up_row _ _ (by omega), up_row _ _ (by omega), up_row _ _ (by omega)]; exact e2
  · rw [up_row _ _ (by omega), up_row _ _ (by omega), up_row _ _ (by omega)]; exact e3
  · rw [up_ne _ _ (by omega), up_ne _ _ (by omega), up_ne _ _ (by omega)]; exact e4
  · rw [up_ne _ _ (by omega), up_ne _ _ (by omega), up_ne _ _ (by omega)]; exact e5
  · rw [up_ne _ _ (by omega), up_ne _ _ (by omega), up_ne _ _ (by omega)]; exact e6
  · rw [up_row _ _ (by omega), up_row _ _ (by omega), up_row _ _ (by omega), earM_row (by omega) (by omega)]; exact h2 i hi
  · rw [up_row _ _ (by omega), up_row _ _ (by omega), up_row _ _ (by omega), earM_row (by omega) (by omega)]; exact h3 i hi
/-- the text is read into the draft -/
theorem d_read {t0 : Nat} (hK0 : At Sh N kr (.inr (6, rdFl t0))) (hX : At Sh N tx (arE 1 700)) (hA : YA Sh N yd) (h1 : tx < kr) (hlt : kr < yd) (hn : n ≤ 700) (hb : ∀ i, i < n → byt (M tx i) ∧ M tx i &&& nI 255 = β i) {tr wk : Nat → Nat} (h2 : ∀ i, i < 24 → M (yd + 2) i = nI (tr i)) (h3 : ∀ i, i < 90 → M (yd + 3) i = nI (wk i)) (hDV : DV (false, (30, 50, 5), (0, tr), (0, wk))) :
    Con E mX6_read 10 0 0 [.ref kr, .ref tx, .int (nI n), .ref yd] Sh N G M (fun r Sh' N' M' => r = some (.int (nI (readF β n tr wk).1.1)) ∧ Sh' = shUp Sh kr (.inr (6, rdFl tx)) ∧ N' = N ∧ Fr (SY kr yd) M M' ∧ M' kr 6 = fpl (readF β n tr wk).1 ∧ YDr M' yd (readF β n tr wk).2) nox := by
  obtain ⟨Sh1, hSh1⟩ : ∃ Sh1, Sh1 = shUp Sh kr (.inr (6, rdFl tx)) := ⟨_, rfl⟩
  have hK : KRd Sh1 N kr tx := by rw [hSh1]; exact ⟨At.same hK0.1, hX.else (by omega), h1⟩
  have hA1 : YA Sh1 N yd := by
    rw [hSh1]
    exact ⟨hA.1.else (by omega), hA.2.1.else (by omega), hA.2.2.1.else (by omega), hA.2.2.2.else (by omega)⟩
  obtain ⟨k0, k1, k2⟩ := id hK
  have ya0 := hA1.1
  obtain ⟨fx, hfx⟩ : ∃ fx, fx = readF β n tr wk := ⟨_, rfl⟩
  rw [← hfx, ← hSh1]
  refine Con.ofQ (by decide +kernel) (by simp [Value.category]) (Nat.le_of_ble_eq_true rfl) (fun k C0 Q hQ => ?_)
  have C : CK k E mX6_read kdX6_read 10 0 0 := ⟨C0, kdX6_read_ok⟩
  refine r_aload_n C 0 rfl rfl rfl rfl ?_
  refine r_aload_n C 1 rfl rfl rfl rfl ?_
  refine r_putv C rfl f_X6_9 (fun h => by cases h) (fun h => by cases h) hK0 (show (0 : Nat) < 7 by decide) rfl rfl ?_
  rw [show shUp Sh kr (.inr (6, (rdFl t0).set 0 (some (.ref tx)))) = Sh1 from hSh1.symm]
  refine r_aload_n C 0 rfl rfl rfl rfl ?_
  refine r_ic (v := nI 0) C rfl (by decide) ?_
  refine r_iload_n C 2 rfl rfl rfl ?_
  refine r_aload_n C 1 rfl rfl rfl rfl ?_
  refine r_alen C rfl k1 (by decide) ?_
  refine r_min C rfl lk_X6_19 ?_
  rw [show (if nI 700 < nI n then nI 700 else nI n) = nI n from if_neg (fun z => by have := lt_nI (by decide) (by omega) z; omega)]
  refine r_max C rfl lk_X6_25 ?_
  rw [show (if nI 0 < nI n then nI n else nI 0) = nI n from by
    by_cases q : 0 < n
    · rw [if_pos ((nI_ltI (by decide) (by omega)).mpr q)]
    · rw [if_neg (fun z => q (lt_nI (by decide) (by omega) z)), show n = 0 by omega]]
  refine r_puti C rfl f_X6_28 (by assumption) rfl rfl rfl ?_
  refine r_aload_n C 0 rfl rfl rfl rfl ?_
  refine r_ic (v := nI 0) C rfl (by decide) ?_
  refine r_puti C rfl f_X6_31 (by assumption) rfl rfl rfl ?_
  refine r_aload_n C 0 rfl rfl rfl rfl ?_
  refine r_ic (v := nI 0) C rfl (by decide) ?_
  refine r_puti C rfl f_X6_34 (by assumption) rfl rfl rfl ?_
  refine r_aload_n C 0 rfl rfl rfl rfl ?_
  refine r_ic (v := (-1)) C rfl (by decide) ?_
  refine r_puti C rfl f_X6_15 (by assumption) rfl rfl rfl ?_
  obtain ⟨M1, hM1⟩ : ∃ M1, M1 = up (up (up (up M kr 1 (nI n)) kr 4 (nI 0)) kr 5 (nI 0)) kr 6 (-1) := ⟨_, rfl⟩
  refine r_eqM (M' := M1) hM1.symm ?_
  have cel1 : ∀ c, c ≠ kr → M1 c = M c := fun c q => by rw [hM1, up_row _ _ q, up_row _ _ q, up_row _ _ q, up_row _ _ q]
  have f1 : M1 kr 1 = nI n := by simp [hM1, up]
  have f4 : M1 kr 4 = nI 0 := by simp [hM1, up]
  have f5 : M1 kr 5 = nI 0 := by simp [hM1, up]
  have f6 : M1 kr 6 = -1 := by simp [hM1, up]
  refine r_aload_n C 3 rfl rfl rfl rfl ?_
  refine v0_g C rfl mfX10_clear lk_X6_37 (by assumption) (y_clear hA1 (fun i hi => by rw [cel1 _ (by omega)]; exact h2 i hi) (fun i hi => by rw [cel1 _ (by omega)]; exact h3 i hi)) ?_
  rintro z M2 ⟨rfl, cel2, hD2⟩
  have hT2 : CTx M2 kr tx n β := ⟨hn, by rw [cel2 _ (by omega) (by omega)]; exact f1, fun i hi => by rw [cel2 _ (by omega) (by omega), cel1 _ (by omega)]; exact hb i hi⟩
  refine r_aload_n C 0 rfl rfl rfl rfl ?_
  refine v0_g C rfl mfX6_advance lk_X6_42 (by assumption) (d_advance hK hT2 (σ := (0, 0, 0, 0, 0)) (by rw [cel2 _ (by omega) (by omega)]; exact f4) (Nat.zero_le _) (by rw [cel2 _ (by omega) (by omega)]; exact f5) (by rw [cel2 _ (by omega) (by omega)]; exact f6)) ?_
  rintro z M3 ⟨rfl, hF3, hP3⟩
  have hI3 : IY M M3 kr tx n β yd (adv β n (0, 0, 0, 0, 0)) (false, (30, 50, 5), (0, tr), (0, wk)) := by
    refine ⟨fun c q => ?_, hT2.fj hF3 (by decide) (by omega), hP3, hD2.fj hF3 hlt⟩
    simp only [SY] at q
    rw [hF3.1 c (by omega), cel2 c (by omega) (by omega), cel1 c (by omega)]
  have fin : ∀ (y : RdS × DR) (M4 : MM) (v4 : Option Value), y = fx → IY M M4 kr tx n β yd y.1 y.2 → PT k E Q 0 0 Sh1 N G M4 78 [some (.ref kr), some (.ref tx), some (.int (nI n)), some (.ref yd), v4] [] := by
    intro y M4 v4 hy hI
    subst hy
    refine r_aload_n C 0 rfl rfl rfl rfl ?_
    refine r_geti C rfl f_X6_34 (by assumption) rfl ?_
    rw [hI.2.2.1.2.2.2.1]
    exact q_iret C hQ rfl rfl rfl ⟨rfl, rfl, rfl, hI.1, hI.2.2.1.2.2.2.2, hI.2.2.2⟩
  have loop : ∀ (m i : Nat) (y : RdS × DR) (M4 : MM), i + m = 701 → linesF β n m y = fx → PV β n y.1 → y.1.1 < 100 → DV y.2 → IY M M4 kr tx n β yd y.1 y.2 → PT k E Q 0 0 Sh1 N G M4 45 [some (.ref kr), some (.ref tx), some (.int (nI n)), some (.ref yd), some (.int (nI i))] [] := by
    intro m
    induction m with
    | zero =>
      intro i y M4 hi hl hv hc hD hI
      have e : i = 701 := by omega
      subst e
      refine r_iload C rfl rfl ?_
      refine r_si (v := nI 700) C rfl (by decide) ?_
      refine r_icmp_gt C 78 rfl (by decide) (fun _ => ?_) (fun z => absurd (by decide) z)
      exact fin y M4 _ hl hI
    | succ m ih =>
      intro i y M4 hi hl hv hc hD hI
      rw [linesF] at hl
      have hk := hv.k
      refine r_iload C rfl rfl ?_
      refine r_si (v := nI 700) C rfl (by decide) ?_
      refine r_icmp_gt C 78 rfl (by decide) (fun z => absurd (lt_nI (by omega) (by omega) z) (by omega)) (fun _ => ?_)
      refine r_aload_n C 0 rfl rfl rfl rfl ?_
      refine r_geti C rfl f_X6_34 (by assumption) rfl ?_
      rw [hI.2.2.1.2.2.2.1]
      refine r_if_ne C 78 rfl (by decide) (fun h => ?_) (fun h => ?_)
      · have h : y.1.1 ≠ 0 := fun z => h (by rw [z]; rfl)
        rw [if_neg (fun z => h z.1)] at hl
        exact fin y M4 _ hl hI
      have h : y.1.1 = 0 := (nI_eq (b := 0) (by omega) (by omega)).mp h
      refine r_aload_n C 0 rfl rfl rfl rfl ?_
      refine r_geti C rfl f_X6_45 (by assumption) rfl ?_
      rw [hI.2.2.1.1]
      refine r_if_eq C 78 rfl (by decide) (fun h2 => ?_) (fun h2 => ?_)
      · have h2 : y.1.2.2.1 = 0 := (nI_eq (b := 0) (by omega) (by omega)).mp h2
        rw [if_neg (fun z => z.2 h2)] at hl
        exact fin y M4 _ hl hI
      have h2 : y.1.2.2.1 ≠ 0 := fun z => h2 (by rw [z]; rfl)
      rw [if_pos ⟨h, h2⟩] at hl
      refine r_aload_n C 0 rfl rfl rfl rfl ?_
      refine r_aload_n C 3 rfl rfl rfl rfl ?_
      refine v1_g C rfl mfX6_readLine lk_X6_48 (by assumption) (d_readLine hK hA1 hlt hI hv hc hD) ?_
      rintro z M5 ⟨rfl, hI5⟩
      refine r_iinc (c := nI 1) C rfl rfl (by decide) ?_
      refine r_goto C 45 rfl (by decide) ?_
      refine r_eqL ?_ (ih (i + 1) (lineF β n y) M5 (by omega) hl (lineF_rv hv).1 (lineF_c hc) (lineF_d hD) hI5)
      first | rfl | (simp only [sm, add3, nI_add, Int32.add_zero, Int32.zero_add]; rfl)
  refine r_ic (v := nI 0) C rfl (by decide) ?_
  refine r_istore C rfl (by exact Nat.le_of_ble_eq_true rfl) ?_
  exact loop 701 0 (adv β n (0, 0, 0, 0, 0), (false, (30, 50, 5), (0, tr), (0, wk))) M3 (by omega) (by rw [hfx]; rfl) (adv_v (Nat.zero_le _)) (by show 0 < 100; decide) hDV hI3
theorem bI_nw (b : Bool) : narrow .boolean (.int (bI b)) = .int (bI b) := by cases b <;> rfl
theorem bI_ft (b : Bool) : fits .boolean (.int (bI b)) = true := by cases b <;> rfl
/-- the ground becomes the draft -/
theorem y_become (hA : YA Sh N gd) (hB : YA Sh N yd) (hlt : yd + 4 ≤ gd) (hD : YDr M yd D) : Con E mX10_become 2 0 0 [.ref gd, .ref yd] Sh N G M (PR Sh N (fun v M' => v = none ∧ Fr (fun c => gd ≤ c ∧ c < gd + 4) M M' ∧ YDr M' gd D)) nox := by
  obtain ⟨a0, a1, a2, a3⟩ := id hA
  obtain ⟨b0, b1, b2, b3⟩ := id hB
  obtain ⟨h1, h2, h3, ⟨⟨e1, e2, e3⟩, e4⟩, h5, h6⟩ := id hD
  refine Con.ofQ (by decide +kernel) (by simp [Value.category]) (Nat.le_of_ble_eq_true rfl) (fun k C0 Q hQ => ?_)
  have C : CK k E mX10_become kdX10_become 2 0 0 := ⟨C0, kdX10_become_ok⟩
  refine r_aload_n C 0 rfl rfl rfl rfl ?_
  refine r_aload_n C 1 rfl rfl rfl rfl ?_
  refine r_getv C rfl f_X10_9 (by assumption) rfl ?_
  refine r_ic (v := nI 0) C rfl (by decide) ?_
  refine r_iald C rfl (by assumption) (0) rfl (by omega) (by decide) ?_
  rw [e1]
  refine r_aload_n C 1 rfl rfl rfl rfl ?_
  refine r_getv C rfl f_X10_9 (by assumption) rfl ?_
  refine r_ic (v := nI 1) C rfl (by decide) ?_
  refine r_iald C rfl (by assumption) (1) rfl (by omega) (by decide) ?_
  rw [e2]
  refine r_aload_n C 1 rfl rfl rfl rfl ?_
  refine r_getv C rfl f_X10_9 (by assumption) rfl ?_
  refine r_ic (v := nI 2) C rfl (by decide) ?_
  refine r_iald C rfl (by assumption) (2) rfl (by omega) (by decide) ?_
  rw [e3]
  refine v3_v C rfl mfX10_setEarth lk_X10_24 (by assumption) (y_setEarth hA _ _ _) ?_
  refine r_aload_n C 0 rfl rfl rfl rfl ?_
  refine r_aload_n C 1 rfl rfl rfl rfl ?_
  refine r_geti C rfl f_X10_28 (by assumption) rfl ?_
  rw [earM_row (by omega) (by omega), h1]
  refine r_puti C rfl f_X10_28 (by assumption) rfl (bI_nw _) (bI_ft _) ?_
  refine r_aload_n C 0 rfl rfl rfl rfl ?_
  refine r_aload_n C 1 rfl rfl rfl rfl ?_
  refine r_geti C rfl f_X10_32 (by assumption) rfl ?_
  rw [up_row _ _ (by omega), earM_row (by omega) (by omega), h2]
  refine r_puti C rfl f_X10_32 (by assumption) rfl rfl rfl ?_
  refine r_aload_n C 0 rfl rfl rfl rfl ?_
  refine r_aload_n C 1 rfl rfl rfl rfl ?_
  refine r_geti C rfl f_X10_36 (by assumption) rfl ?_
  rw [up_row _ _ (by omega), up_row _ _ (by omega), earM_row (by omega) (by omega), h3]
  refine r_puti C rfl f_X10_36 (by assumption) rfl rfl rfl ?_
  refine r_aload_n C 1 rfl rfl rfl rfl ?_
  refine r_getv C rfl f_X10_15 (by assumption) rfl ?_
  refine r_ic (v := nI 0) C rfl (by decide) ?_
  refine r_aload_n C 0 rfl rfl rfl rfl ?_
  refine r_getv C rfl f_X10_15 (by assumption) rfl ?_
  refine r_ic (v := nI 0) C rfl (by decide) ?_
  refine r_aload_n C 0 rfl rfl rfl rfl ?_
  refine r_getv C rfl f_X10_15 (by assumption) rfl ?_
  refine r_alen C rfl a2 (by decide) ?_
  refine r_acopy C 0 0 24 rfl lkac_X10_48 b2 a2 rfl rfl rfl (by omega) (by omega) (by decide) (by decide) ?_
  refine r_aload_n C 1 rfl rfl rfl rfl ?_
  refine r_getv C rfl f_X10_18 (by assumption) rfl ?_
  refine r_ic (v := nI 0) C rfl (by decide) ?_
  refine r_aload_n C 0 rfl rfl rfl rfl ?_
  refine r_getv C rfl f_X10_18 (by assumption) rfl ?_
  refine r_ic (v := nI 0) C rfl (by decide) ?_
  refine r_aload_n C 0 rfl rfl rfl rfl ?_
  refine r_getv C rfl f_X10_18 (by assumption) rfl ?_
  refine r_alen C rfl a3 (by decide) ?_
  refine r_acopy C 0 0 90 rfl lkac_X10_48 b3 a3 rfl rfl rfl (by omega) (by omega) (by decide) (by decide) ?_
  obtain ⟨M1, hM1⟩ : ∃ M1, M1 = up (up (up (earM M gd (nI D.2.1.1) (nI D.2.1.2.1) (nI D.2.1.2.2)) gd 3 (bI D.1)) gd 4 (nI D.2.2.1.1)) gd 5 (nI D.2.2.2.1) := ⟨_, rfl⟩
  refine r_eqM (M' := aset (aset M1 (gd + 2) (va_cpy (M1 (yd + 2)) (M1 (gd + 2)) 0 0 24)) (gd + 3) (va_cpy (aset M1 (gd + 2) (va_cpy (M1 (yd + 2)) (M1 (gd + 2)) 0 0 24) (yd + 3)) (aset M1 (gd + 2) (va_cpy (M1 (yd + 2)) (M1 (gd + 2)) 0 0 24) (gd + 3)) 0 0 90)) (by rw [hM1]) ?_
  have cel1 : ∀ c, c ≠ gd → c ≠ gd + 1 → M1 c = M c := fun c q1 q2 => by rw [hM1, up_row _ _ q1, up_row _ _ q1, up_row _ _ q1, earM_row q1 q2]
  obtain ⟨⟨g1, g2, g3⟩, g4, g5, g6⟩ := earM_ear (M := M) (yd := gd) (nI D.2.1.1) (nI D.2.1.2.1) (nI D.2.1.2.2)
  refine q_vret C hQ rfl rfl ⟨rfl, rfl, rfl, fun c q => ?_, ?_, ?_, ?_, ⟨⟨?_, ?_, ?_⟩, ?_, ?_, ?_⟩, fun i hi => ?_, fun i hi => ?_⟩
  · rw [aset_ne _ _ (by omega), aset_ne _ _ (by omega)]; exact cel1 c (by omega) (by omega)
  · rw [aset_ne _ _ (by omega), aset_ne _ _ (by omega), hM1, up_ne _ _ (by omega), up_ne _ _ (by omega), up_same]
  · rw [aset_ne _ _ (by omega), aset_ne _ _ (by omega), hM1, up_ne _ _ (by omega), up_same]
  · rw [aset_ne _ _ (by omega), aset_ne _ _ (by omega), hM1, up_same]
  · rw [aset_ne _ _ (by omega), aset_ne _ _ (by omega), hM1, up_row _ _ (by omega), up_row _ _ (by omega), up_row _ _ (by omega)]; exact g1
  · rw [aset_ne _ _ (by omega), aset_ne _ _ (by omega), hM1, up_row _ _ (by omega), up_row _ _ (by omega), up_row _ _ (by omega)]; exact g2
  · rw [aset_ne _ _ (by omega), aset_ne _ _ (by omega), hM1, up_row _ _ (by omega), up_row _ _ (by omega), up_row _ _ (by omega)]; exact g3
  · rw [aset_ne _ _ (by omega), aset_ne _ _ (by omega), hM1, up_ne _ _ (by omega), up_ne _ _ (by omega), up_ne _ _ (by omega)]; exact g4
  · rw [aset_ne _ _ (by omega), aset_ne _ _ (by omega), hM1, up_ne _ _ (by omega), up_ne _ _ (by omega), up_ne _ _ (by omega)]; exact g5
  · rw [aset_ne _ _ (by omega), aset_ne _ _ (by omega), hM1, up_ne _ _ (by omega), up_ne _ _ (by omega), up_ne _ _ (by omega)]; exact g6
  · rw [aset_ne _ _ (by omega), aset_own, pk_cpy_in (Nat.zero_le i) (by omega), cel1 _ (by omega) (by omega), show 0 + (i - 0) = i by omega]; exact h5 i hi
  · rw [aset_own, pk_cpy_in (Nat.zero_le i) (by omega), aset_ne _ _ (by omega), cel1 _ (by omega) (by omega), show 0 + (i - 0) = i by omega]; exact h6 i hi
/-- a wall as the text tells it: its first numbers -/
def brow (tr : Nat → Nat) (i j : Nat) : Int32 := if j = 0 then nI (max 1 (tr (6 * i))) else if j = 2 then nI (tr (6 * i + 1)) else if j = 3 then nI (tr (6 * i + 2)) else if j = 4 then bI (decide (nI (tr (6 * i + 3)) = nI 1)) else if j = 5 then nI (tr (6 * i + 4)) else if j = 6 then nI (tr (6 * i + 5)) else 0
theorem w_begin (hA : WA Sh N w yd) {tr : Nat → Nat} (h2 : ∀ i, i < 24 → M (yd + 2) i = nI (tr i)) {x : Int32} (i : Nat) (hx : x = nI i) (hi : i < 4) (h6 : tr (6 * i) ≤ 6) : Con E mX8_begin 1 0 0 [.ref w, .int x] Sh N G M (PR Sh N (fun v M' => v = none ∧ (∀ c, c ≠ w → M' c = M c) ∧ ∀ j, j < 13 → wrow M' w j = brow tr i j)) nox := by
  subst hx
  obtain ⟨a0, a1, a2, a3, ⟨y0, y1, y2, y3⟩, a5⟩ := id hA
  refine Con.ofQ (by decide +kernel) (by simp [Value.category]) (Nat.le_of_ble_eq_true rfl) (fun k C0 Q hQ => ?_)
  have C : CK k E mX8_begin kdX8_begin 1 0 0 := ⟨C0, kdX8_begin_ok⟩
  refine r_iload_n C 1 rfl rfl rfl ?_
  refine r_bi (v := nI 6) C rfl (by decide) ?_
  refine r_imul C rfl ?_
  rw [pk_mul, show i * 6 = 6 * i by omega]
  refine r_istore_n C 2 rfl rfl (by exact Nat.le_of_ble_eq_true rfl) ?_
  refine r_iload_n C 2 rfl rfl rfl ?_
  refine r_if_lt C 130 rfl (by decide) (fun h => absurd ((nI_leI (a := 0) (by decide) (by omega)).mpr (Nat.zero_le _)) (Int32.not_le.mpr h)) (fun _ => ?_)
  refine r_iload_n C 2 rfl rfl rfl ?_
  refine r_bi (v := nI 6) C rfl (by decide) ?_
  refine r_iadd C rfl ?_
  rw [nI_add]
  refine r_aload_n C 0 rfl rfl rfl rfl ?_
  refine r_getv C rfl f_X8_25 (by assumption) rfl ?_
  refine r_getv C rfl f_X8_31 (by assumption) rfl ?_
  refine r_alen C rfl y2 (by decide) ?_
  refine r_icmp_gt C 130 rfl (by decide) (fun z => absurd (lt_nI (by omega) (by omega) z) (by omega)) (fun _ => ?_)
  refine r_aload_n C 0 rfl rfl rfl rfl ?_
  refine r_ic (v := nI 1) C rfl (by decide) ?_
  refine r_bi (v := nI 6) C rfl (by decide) ?_
  refine r_aload_n C 0 rfl rfl rfl rfl ?_
  refine r_getv C rfl f_X8_25 (by assumption) rfl ?_
  refine r_getv C rfl f_X8_31 (by assumption) rfl ?_
  refine r_iload_n C 2 rfl rfl rfl ?_
  refine r_iald C rfl (by assumption) (6 * i) rfl (by omega) (by decide) ?_
  rw [h2 _ (by omega)]
  refine r_min C rfl lk_X8_34 ?_
  rw [show (if nI (tr (6 * i)) < nI 6 then nI (tr (6 * i)) else nI 6) = nI (tr (6 * i)) from by
    by_cases q : tr (6 * i) < 6
    · rw [if_pos ((nI_ltI (by omega) (by decide)).mpr q)]
    · rw [if_neg (fun z => q (lt_nI (by omega) (by decide) z)), show tr (6 * i) = 6 by omega]]
  refine r_max C rfl lk_X8_40 ?_
  rw [show (if nI 1 < nI (tr (6 * i)) then nI (tr (6 * i)) else nI 1) = nI (max 1 (tr (6 * i))) from by
    by_cases q : 1 < tr (6 * i)
    · rw [if_pos ((nI_ltI (by decide) (by omega)).mpr q), Nat.max_eq_right (by omega)]
    · rw [if_neg (fun z => q (lt_nI (by decide) (by omega) z)), Nat.max_eq_left (by omega)]]
  refine r_puti C rfl f_X8_21 (by assumption) rfl rfl rfl ?_
  refine r_aload_n C 0 rfl rfl rfl rfl ?_
  refine r_aload_n C 0 rfl rfl rfl rfl ?_
  refine r_getv C rfl f_X8_25 (by assumption) rfl ?_
  refine r_getv C rfl f_X8_31 (by assumption) rfl ?_
  refine r_iload_n C 2 rfl rfl rfl ?_
  refine r_ic (v := nI 1) C rfl (by decide) ?_
  refine r_iadd C rfl ?_
  rw [nI_add]
  refine r_iald C rfl (by assumption) (6 * i + 1) rfl (by omega) (by decide) ?_
  rw [up_row _ _ (by omega), h2 _ (by omega)]
  refine r_puti C rfl f_X8_43 (by assumption) rfl rfl rfl ?_
  refine r_aload_n C 0 rfl rfl rfl rfl ?_
  refine r_aload_n C 0 rfl rfl rfl rfl ?_
  refine r_getv C rfl f_X8_25 (by assumption) rfl ?_
  refine r_getv C rfl f_X8_31 (by assumption) rfl ?_
  refine r_iload_n C 2 rfl rfl rfl ?_
  refine r_ic (v := nI 2) C rfl (by decide) ?_
  refine r_iadd C rfl ?_
  rw [nI_add]
  refine r_iald C rfl (by assumption) (6 * i + 2) rfl (by omega) (by decide) ?_
  rw [up_row _ _ (by omega), up_row _ _ (by omega), h2 _ (by omega)]
  refine r_puti C rfl f_X8_46 (by assumption) rfl rfl rfl ?_
  refine r_aload_n C 0 rfl rfl rfl rfl ?_
  refine r_aload_n C 0 rfl rfl rfl rfl ?_
  refine r_getv C rfl f_X8_25 (by assumption) rfl ?_
  refine r_getv C rfl f_X8_31 (by assumption) rfl ?_
  refine r_iload_n C 2 rfl rfl rfl ?_
  refine r_ic (v := nI 3) C rfl (by decide) ?_
  refine r_iadd C rfl ?_
  rw [nI_add]
  refine r_iald C rfl (by assumption) (6 * i + 3) rfl (by omega) (by decide) ?_
  rw [up_row _ _ (by omega), up_row _ _ (by omega), up_row _ _ (by omega), h2 _ (by omega)]
  refine r_ic (v := nI 1) C rfl (by decide) ?_
  obtain ⟨M1, hM1⟩ : ∃ M1, M1 = up (up (up M w 4 (nI (max 1 (tr (6 * i))))) w 6 (nI (tr (6 * i + 1)))) w 7 (nI (tr (6 * i + 2))) := ⟨_, rfl⟩
  have rest : ∀ z : Int32, z = bI (decide (nI (tr (6 * i + 3)) = nI 1)) → PT k E Q 0 0 Sh N G M1 97 [some (.ref w), some (.int (nI i)), some (.int (nI (6 * i)))] [.int z, .ref w] := by
    intro z hz
    subst hz
    refine r_puti C rfl f_X8_49 (by assumption) rfl (bI_nw _) (bI_ft _) ?_
    refine r_aload_n C 0 rfl rfl rfl rfl ?_
    refine r_aload_n C 0 rfl rfl rfl rfl ?_
    refine r_getv C rfl f_X8_25 (by assumption) rfl ?_
    refine r_getv C rfl f_X8_31 (by assumption) rfl ?_
    refine r_iload_n C 2 rfl rfl rfl ?_
    refine r_ic (v := nI 4) C rfl (by decide) ?_
    refine r_iadd C rfl ?_
    rw [nI_add]
    refine r_iald C rfl (by assumption) (6 * i + 4) rfl (by omega) (by decide) ?_
    rw [up_row _ _ (by omega), hM1, up_row _ _ (by omega), up_row _ _ (by omega), up_row _ _ (by omega), h2 _ (by omega)]
    refine r_puti C rfl f_X8_53 (by assumption) rfl rfl rfl ?_
    refine r_aload_n C 0 rfl rfl rfl rfl ?_
    refine r_aload_n C 0 rfl rfl rfl rfl ?_
    refine r_getv C rfl f_X8_25 (by assumption) rfl ?_
    refine r_getv C rfl f_X8_31 (by assumption) rfl ?_
    refine r_iload_n C 2 rfl rfl rfl ?_
    refine r_ic (v := nI 5) C rfl (by decide) ?_
    refine r_iadd C rfl ?_
    rw [nI_add]
    refine r_iald C rfl (by assumption) (6 * i + 5) rfl (by omega) (by decide) ?_
    rw [up_row _ _ (by omega), up_row _ _ (by omega), up_row _ _ (by omega), up_row _ _ (by omega), up_row _ _ (by omega), h2 _ (by omega)]
    refine r_puti C rfl f_X8_56 (by assumption) rfl rfl rfl ?_
    refine r_aload_n C 0 rfl rfl rfl rfl ?_
    refine r_ic (v := nI 0) C rfl (by decide) ?_
    refine r_puti C rfl f_X8_59 (by assumption) rfl rfl rfl ?_
    refine r_aload_n C 0 rfl rfl rfl rfl ?_
    refine r_ic (v := nI 0) C rfl (by decide) ?_
    refine r_puti C rfl f_X8_62 (by assumption) rfl rfl rfl ?_
    refine r_aload_n C 0 rfl rfl rfl rfl ?_
    refine r_ic (v := nI 0) C rfl (by decide) ?_
    refine r_puti C rfl f_X8_65 (by assumption) rfl rfl rfl ?_
    refine r_aload_n C 0 rfl rfl rfl rfl ?_
    refine r_ic (v := nI 0) C rfl (by decide) ?_
    refine r_puti C rfl f_X8_68 (by assumption) rfl rfl rfl ?_
    refine r_aload_n C 0 rfl rfl rfl rfl ?_
    refine r_ic (v := nI 0) C rfl (by decide) ?_
    refine r_puti C rfl f_X8_71 (by assumption) rfl rfl rfl ?_
    refine r_aload_n C 0 rfl rfl rfl rfl ?_
    refine r_ic (v := nI 0) C rfl (by decide) ?_
    refine r_puti C rfl f_X8_74 (by assumption) rfl rfl rfl ?_
    refine r_aload_n C 0 rfl rfl rfl rfl ?_
    refine r_ic (v := nI 0) C rfl (by decide) ?_
    refine r_puti C rfl f_X8_77 (by assumption) rfl rfl rfl ?_
    obtain ⟨M2, hM2⟩ : ∃ M2, M2 = up (up (up (up (up (up (up (up (up (up (up (up (up M w 4 (nI (max 1 (tr (6 * i))))) w 6 (nI (tr (6 * i + 1)))) w 7 (nI (tr (6 * i + 2)))) w 8 (bI (decide (nI (tr (6 * i + 3)) = nI 1)))) w 9 (nI (tr (6 * i + 4)))) w 10 (nI (tr (6 * i + 5)))) w 11 (nI 0)) w 5 (nI 0)) w 12 (nI 0)) w 13 (nI 0)) w 14 (nI 0)) w 15 (nI 0)) w 16 (nI 0) := ⟨_, rfl⟩
    refine r_eqM (M' := M2) hM2.symm ?_
    refine q_vret C hQ rfl rfl ⟨rfl, rfl, rfl, fun c q => by rw [hM2, up_row _ _ q, up_row _ _ q, up_row _ _ q, up_row _ _ q, up_row _ _ q, up_row _ _ q, up_row _ _ q, up_row _ _ q, up_row _ _ q, up_row _ _ q, up_row _ _ q, up_row _ _ q, up_row _ _ q], fun j hj => ?_⟩
    have : j = 0 ∨ j = 1 ∨ j = 2 ∨ j = 3 ∨ j = 4 ∨ j = 5 ∨ j = 6 ∨ j = 7 ∨ j = 8 ∨ j = 9 ∨ j = 10 ∨ j = 11 ∨ j = 12 := by omega
    rcases this with rfl | rfl | rfl | rfl | rfl | rfl | rfl | rfl | rfl | rfl | rfl | rfl | rfl <;> · simp [wrow, brow, hM2, up]; try rfl
  refine r_icmp_ne C 96 rfl (by decide) (fun h => ?_) (fun h => ?_)
  · refine r_ic (v := nI 0) C rfl (by decide) ?_
    rw [← hM1]
    exact rest _ (by rw [decide_eq_false h]; rfl)
  · refine r_ic (v := nI 1) C rfl (by decide) ?_
    refine r_goto C 97 rfl (by decide) ?_
    rw [← hM1]
    exact rest _ (by rw [decide_eq_true h]; rfl)
end CYARD
