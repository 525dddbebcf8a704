section RREAD4
variable {E : VE} {Sh : Nat → SE} {N : Nat} {G : Bool} {M M' M'' M0 : MM} {o n b : Nat} {β : Nat → Int32} {σ σ' : RdS} {D : DR}
/-- between the steps of a week's line -/
def IK (M0 M : MM) (o n : Nat) (β : Nat → Int32) (D : DR) (σ : RdS) : Prop := FRd o M0 M ∧ RDr M o D ∧ RP M o β σ ∧ RTx M o n β
theorem IK.fj (h : IK M0 M o n β D σ) (hF : FJ o JB M M') (hP : RP M' o β σ') : IK M0 M' o n β D σ' := ⟨h.1.trans (FRd.fj hF), h.2.1.fj hF, hP, h.2.2.2.fj hF (by decide)⟩
theorem RP.cell {c j : Nat} (v : Int32) (h : RP M o β σ) (hc : c ≠ o) : RP (up M c j v) o β σ := by
  unfold RP
  rw [up_row _ _ (Ne.symm hc)]
  exact h
theorem IK.put (h : IK M0 M o n β D σ) {c : Nat} (h1 : o + 5 ≤ c) (h2 : c ≤ o + 7) (v : Int32) : IK M0 (up M c (30 + D.2.2.2.1) v) o n β D σ := by
  obtain ⟨g1, ⟨d1, d2, d3, d4, d5⟩, g3, g4⟩ := h
  refine ⟨g1.trans ⟨fun x q1 q2 q3 => up_row _ _ (by omega), fun r q1 q2 j q3 => by rw [mrow_cell (up_row _ _ (by omega))], fun j _ _ => by rw [up_row _ _ (by omega)], fun i _ => by rw [up_row _ _ (by omega)], fun k hk => ⟨up_ne _ _ (by omega), up_ne _ _ (by omega), up_ne _ _ (by omega)⟩, by rw [up_row _ _ (by omega)]⟩, ⟨by rw [up_row _ _ (by omega)]; exact d1, by rw [up_row _ _ (by omega)]; exact d2, by rw [up_row _ _ (by omega)]; exact d3, fun i hi j hj => by rw [mrow_cell (up_row _ _ (by omega))]; exact d4 i hi j hj, fun k hk => ?_⟩, g3.cell v (by omega), ⟨g4.1, by rw [up_row _ _ (by omega)]; exact g4.2.1, fun i hi => by rw [up_row _ _ (by omega)]; exact g4.2.2.1 i hi, g4.2.2.2⟩⟩
  rw [up_ne _ _ (by omega), up_ne _ _ (by omega), up_ne _ _ (by omega)]
  exact d5 k hk
theorem m_readWeek (hM : MO Sh N o) (hT : RTx M o n β) (hP : RP M o β σ) (hv : PV β n σ) (hb0 : σ.1 = 0) (hR : RDr M o D) (hD : DV D) : Con E mX12_readWeek 8 0 0 [.ref o] Sh N G M (PR Sh N (fun v M' => v = none ∧ LQ M o β (rdK β n σ D) M')) nox := by
  have h0 := hM.1
  have h5 : At Sh N (o + 5) (arE 0 60) := hM.ar 4 rfl
  have h6 : At Sh N (o + 6) (arE 0 60) := hM.ar 5 rfl
  have h7 : At Sh N (o + 7) (arE 0 60) := hM.ar 6 rfl
  have h8 : At Sh N (o + 8) (arE 0 2) := hM.ar 7 rfl
  have hn := hT.1
  have hD4 := hD.2.2.1
  obtain ⟨v1, v2, v3⟩ := rK_rv hv
  have hv0 := adv_rv hv
  have c0 : (adv β n σ).1 < 100 := by show σ.1 < 100; omega
  have c1 : (rK1 β n σ).2.1 < 100 := takeN_c 0 99 c0
  have c2 : (rK2 β n σ).2.1 < 100 := takeN_c 0 99 c1
  refine Con.ofQ (by decide +kernel) (by simp [Value.category]) (Nat.le_of_ble_eq_true rfl) (fun k C0 Q hQ => ?_)
  have C : CK k E mX12_readWeek kdX12_readWeek 8 0 0 := ⟨C0, kdX12_readWeek_ok⟩
  refine r_aload_n C 0 rfl rfl rfl rfl ?_
  refine r_getv C rfl f_X12_31 (by assumption) rfl ?_
  refine r_ic (v := nI 1) C rfl (by decide) ?_
  refine r_iald C rfl (by assumption) (1) rfl (by omega) (by decide) ?_
  rw [hR.2.1]
  refine r_istore_n C 1 rfl rfl (by exact Nat.le_of_ble_eq_true rfl) ?_
  refine r_iload_n C 1 rfl rfl rfl ?_
  refine r_bi (v := nI 30) C rfl (by decide) ?_
  refine r_icmp_ne C 18 rfl (by decide) (fun h4 => ?_) (fun h4 => ?_)
  rotate_left
  · have h4 : D.2.2.2.1 = 30 := (nI_eq (b := 30) (by omega) (by omega)).mp h4
    have e : rdK β n σ D = (refu 2 σ, D) := by unfold rdK; rw [if_pos (by omega)]
    have e1 : (refu 2 σ).1 = 2 := by unfold refu; rw [if_pos hb0]
    refine r_aload_n C 0 rfl rfl rfl rfl ?_
    refine r_ic (v := nI 2) C rfl (by decide) ?_
    refine v1_g C rfl mfX12_wrong lk_X12_162 (by assumption) (m_wrong hM hP hv hn 2 rfl (by decide) (by omega)) ?_
    rintro z M1 ⟨rfl, hF, hP1⟩
    have hF := hF.mono (J' := JB) (fun j z => by simp only [JB]; omega)
    refine r_aload_n C 0 rfl rfl rfl rfl ?_
    refine r_geti C rfl f_X12_139 (by assumption) rfl ?_
    rw [hP1.2.2.2.2.1, e1]
    refine r_if_eq C 26 rfl (by decide) (fun z => absurd z (by decide)) (fun _ => ?_)
    exact q_vret C hQ rfl rfl ⟨rfl, rfl, rfl, FRd.fj hF, by rw [e]; exact hP1, fun z => by rw [e] at z; exact absurd (e1.symm.trans z) (by decide)⟩
  have h4 : D.2.2.2.1 < 30 := by
    have : D.2.2.2.1 ≠ 30 := fun z => h4 (by rw [z])
    omega
  refine r_aload_n C 0 rfl rfl rfl rfl ?_
  refine r_geti C rfl f_X12_139 (by assumption) rfl ?_
  rw [hP.2.2.2.2.1, hb0]
  refine r_if_eq C 26 rfl (by decide) (fun _ => ?_) (fun z => absurd rfl z)
  refine r_aload_n C 0 rfl rfl rfl rfl ?_
  refine v0_g C rfl mfX12_stepOn lk_X12_159 (by assumption) (m_adv hM hT hP hv) ?_
  rintro z M1 ⟨rfl, hF1, hP1⟩
  have hF1 := JT_JB hF1
  have hI : IK M M1 o n β D (adv β n σ) := ⟨FRd.fj hF1, hR.fj hF1, hP1, hT.fj hF1 (by decide)⟩
  refine r_aload_n C 0 rfl rfl rfl rfl ?_
  refine r_getv C rfl f_X12_22 (by assumption) rfl ?_
  refine r_bi (v := nI 30) C rfl (by decide) ?_
  refine r_iload_n C 1 rfl rfl rfl ?_
  refine r_iadd C rfl ?_
  rw [nI_add]
  refine r_aload_n C 0 rfl rfl rfl rfl ?_
  refine r_ic (v := nI 0) C rfl (by decide) ?_
  refine r_bi (v := nI 99) C rfl (by decide) ?_
  refine v2_g C rfl mfX12_readNumber lk_X12_169 (by assumption) (m_readNumber hM hI.2.2.2 hI.2.2.1 hv0.1 c0 0 99 rfl rfl (by decide) (by decide)) ?_
  rintro z M2 ⟨⟨z1, rfl, hz1⟩, hF2, hP2⟩
  have hI := hI.fj hF2 (σ' := (rK1 β n σ).2) hP2
  refine r_iast C rfl (by assumption) (30 + D.2.2.2.1) rfl (by omega) (by decide) ?_
  have hI := hI.put (c := o + 5) (by omega) (by omega) z1
  obtain ⟨M3, hM3⟩ : ∃ M3, M3 = up M2 (o + 5) (30 + D.2.2.2.1) z1 := ⟨_, rfl⟩
  rw [← hM3] at hI ⊢
  have w1 : M3 (o + 5) (30 + D.2.2.2.1) = z1 := by rw [hM3, up_same]
  refine r_aload_n C 0 rfl rfl rfl rfl ?_
  refine r_getv C rfl f_X12_25 (by assumption) rfl ?_
  refine r_bi (v := nI 30) C rfl (by decide) ?_
  refine r_iload_n C 1 rfl rfl rfl ?_
  refine r_iadd C rfl ?_
  rw [nI_add]
  refine r_aload_n C 0 rfl rfl rfl rfl ?_
  refine r_ic (v := nI 0) C rfl (by decide) ?_
  refine r_bi (v := nI 99) C rfl (by decide) ?_
  refine v2_g C rfl mfX12_readNumber lk_X12_169 (by assumption) (m_readNumber hM hI.2.2.2 hI.2.2.1 v1.1 c1 0 99 rfl rfl (by decide) (by decide)) ?_
  rintro z M4 ⟨⟨z2, rfl, hz2⟩, hF4, hP4⟩
  have hI := hI.fj hF4 (σ' := (rK2 β n σ).2) hP4
  have w1 : M4 (o + 5) (30 + D.2.2.2.1) = z1 := by rw [hF4.1 _ (by omega)]; exact w1
  refine r_iast C rfl (by assumption) (30 + D.2.2.2.1) rfl (by omega) (by decide) ?_
  have hI := hI.put (c := o + 6) (by omega) (by omega) z2
  obtain ⟨M5, hM5⟩ : ∃ M5, M5 = up M4 (o + 6) (30 + D.2.2.2.1) z2 := ⟨_, rfl⟩
  rw [← hM5] at hI ⊢
  have w2 : M5 (o + 6) (30 + D.2.2.2.1) = z2 := by rw [hM5, up_same]
  have w1 : M5 (o + 5) (30 + D.2.2.2.1) = z1 := by rw [hM5, up_row _ _ (by omega)]; exact w1
  refine r_aload_n C 0 rfl rfl rfl rfl ?_
  refine r_getv C rfl f_X12_28 (by assumption) rfl ?_
  refine r_bi (v := nI 30) C rfl (by decide) ?_
  refine r_iload_n C 1 rfl rfl rfl ?_
  refine r_iadd C rfl ?_
  rw [nI_add]
  refine r_aload_n C 0 rfl rfl rfl rfl ?_
  refine r_ldcs (text := "frost") (n := 17) C rfl (by decide +kernel) ?_
  refine v1_g C rfl mfX12_passes lk_X12_166 (by assumption) (m_passes hM hI.2.2.2 hI.2.2.1 v2.1 c2 (i := 17) (by decide)) ?_
  rintro z M6 ⟨rfl, hF6, hP6⟩
  have hI := hI.fj (JT_JB hF6) (σ' := (rK3 β n σ).2) hP6
  have w1 : M6 (o + 5) (30 + D.2.2.2.1) = z1 := by rw [hF6.1 _ (by omega)]; exact w1
  have w2 : M6 (o + 6) (30 + D.2.2.2.1) = z2 := by rw [hF6.1 _ (by omega)]; exact w2
  have rest : ∀ z3 : Int32, z3 = bI (rK3 β n σ).1 → PT k E Q 0 0 Sh N G M6 84 [some (.ref o), some (.int (nI D.2.2.2.1))] [.int z3, .int (nI (30 + D.2.2.2.1)), .ref (o + 7)] := by
    intro z3 hz3
    refine r_iast C rfl (by assumption) (30 + D.2.2.2.1) rfl (by omega) (by decide) ?_
    have hI := hI.put (c := o + 7) (by omega) (by omega) z3
    obtain ⟨M7, hM7⟩ : ∃ M7, M7 = up M6 (o + 7) (30 + D.2.2.2.1) z3 := ⟨_, rfl⟩
    rw [← hM7] at hI ⊢
    have w3 : M7 (o + 7) (30 + D.2.2.2.1) = z3 := by rw [hM7, up_same]
    have w1 : M7 (o + 5) (30 + D.2.2.2.1) = z1 := by rw [hM7, up_row _ _ (by omega)]; exact w1
    have w2 : M7 (o + 6) (30 + D.2.2.2.1) = z2 := by rw [hM7, up_row _ _ (by omega)]; exact w2
    obtain ⟨hI1, ⟨d1, d2, d3, d4, d5⟩, hI3, hI4⟩ := hI
    refine r_aload_n C 0 rfl rfl rfl rfl ?_
    refine r_getv C rfl f_X12_31 (by assumption) rfl ?_
    refine r_ic (v := nI 1) C rfl (by decide) ?_
    refine r_dup2 C rfl rfl rfl ?_
    refine r_iald C rfl (by assumption) (1) rfl (by omega) (by decide) ?_
    rw [d2]
    refine r_ic (v := nI 1) C rfl (by decide) ?_
    refine r_iadd C rfl ?_
    rw [nI_add]
    refine r_iast C rfl (by assumption) (1) rfl (by omega) (by decide) ?_
    have e : rdK β n σ D = ((rK3 β n σ).2, (D.1, D.2.1, D.2.2.1, (D.2.2.2.1 + 1, putN D.2.2.2.2 (rKt β n σ) (3 * D.2.2.2.1) 3))) := by unfold rdK; rw [if_neg (by omega)]
    refine q_vret C hQ rfl rfl ⟨rfl, rfl, rfl, hI1.trans ⟨fun c q1 q2 q3 => up_row _ _ (by omega), fun r _ _ j _ => by rw [mrow_cell (up_row _ _ (by omega))], fun j _ _ => by rw [up_row _ _ (by omega)], fun i _ => by rw [up_row _ _ (by omega)], fun k _ => by rw [up_row _ _ (by omega), up_row _ _ (by omega), up_row _ _ (by omega)]; exact ⟨rfl, rfl, rfl⟩, up_ne _ _ (by omega)⟩, by rw [e]; exact hI3.cell _ (by omega), fun hz => ?_⟩
    rw [e] at hz ⊢
    have hz : (rK3 β n σ).2.1 = 0 := hz
    have y2 : (rK2 β n σ).2.1 = 0 := takeW_0 hz
    have y1 : (rK1 β n σ).2.1 = 0 := takeN_0 y2
    have g1 : z1 = nI (rK1 β n σ).1 := hz1 y1
    have g2 : z2 = nI (rK2 β n σ).1 := hz2 y2
    refine ⟨by rw [up_row _ _ (by omega)]; exact d1, up_same _ _ _ _, by rw [up_row _ _ (by omega)]; exact d3, fun i hi j hj => by rw [mrow_cell (up_row _ _ (by omega))]; exact d4 i hi j hj, fun k hk => ?_⟩
    have hk : k < D.2.2.2.1 + 1 := hk
    rw [up_row _ _ (by omega), up_row _ _ (by omega), up_row _ _ (by omega)]
    show M7 (o + 5) (30 + k) = nI (putN D.2.2.2.2 (rKt β n σ) (3 * D.2.2.2.1) 3 (3 * k)) ∧ M7 (o + 6) (30 + k) = nI (putN D.2.2.2.2 (rKt β n σ) (3 * D.2.2.2.1) 3 (3 * k + 1)) ∧ M7 (o + 7) (30 + k) = nI (putN D.2.2.2.2 (rKt β n σ) (3 * D.2.2.2.1) 3 (3 * k + 2))
    by_cases e2 : k = D.2.2.2.1
    · subst e2
      have p0 := putN_in D.2.2.2.2 (rKt β n σ) (a := 3 * D.2.2.2.1) (m := 3) (i := 0) (by decide)
      rw [Nat.add_zero] at p0
      rw [p0, putN_in _ _ (by decide), putN_in _ _ (by decide), w1, w2, w3, g1, g2, hz3, ← bN_I]
      exact ⟨rfl, rfl, rfl⟩
    · rw [putN_out _ _ (by omega), putN_out _ _ (by omega), putN_out _ _ (by omega)]
      exact d5 k (by omega)
  refine r_if_eq C 83 rfl (by decide) (fun h => ?_) (fun h => ?_)
  · refine r_ic (v := nI 0) C rfl (by decide) ?_
    exact rest _ (by rw [show (rK3 β n σ).1 = false from bI_0 h]; rfl)
  · refine r_ic (v := nI 1) C rfl (by decide) ?_
    refine r_goto C 84 rfl (by decide) ?_
    exact rest _ (by rw [show (rK3 β n σ).1 = true from bI_1 h]; rfl)
theorem refu_refu {p q : Nat} (hq : q ≠ 0) (σ : RdS) : refu p (refu q σ) = refu q σ := by
  have h : (refu q σ).1 ≠ 0 := refu_bad hq σ
  generalize refu q σ = y at h ⊢
  unfold refu
  rw [if_neg h]
theorem refu_c {q : Nat} (hq : q < 100) (h : σ.1 < 100) : (refu q σ).1 < 100 := by
  unfold refu
  by_cases e : σ.1 = 0
  · rw [if_pos e]; exact hq
  · rw [if_neg e]; exact h
theorem lineT_bad {q : Nat} (hq : q ≠ 0) (σ : RdS) : lineT β n (refu q σ) = refu q σ := by
  unfold lineT
  rw [if_neg (fun z => refu_bad hq σ z.1), refu_refu hq]
/-- a line of the text -/
theorem m_readLine (hM : MO Sh N o) (hT : RTx M o n β) (hP : RP M o β σ) (hv : PV β n σ) (hb0 : σ.1 = 0) (hR : RDr M o D) (hD : DV D) : Con E mX12_readLine 9 0 0 [.ref o, .int (bI D.1)] Sh N G M (PR Sh N (fun v M' => (∃ z : Bool, v = some (.int (bI z)) ∧ ((lineF β n (σ, D)).1.1 = 0 → z = (lineF β n (σ, D)).2.1)) ∧ LQ M o β (lineF β n (σ, D)) M')) nox := by
  have h0 := hM.1
  have h4 : At Sh N (o + 4) (arE 0 6) := hM.ar 3 rfl
  have hn := hT.1
  have hbl : σ.1 < 100 := by omega
  have w01 : wordB 9 = wordB 0 := rfl
  have w11 : wordB 10 = wordB 1 := rfl
  have w21 : wordB 11 = wordB 2 := rfl
  have ed : decide (σ.1 = 0) = true := decide_eq_true hb0
  refine Con.ofQ (by decide +kernel) (by simp [Value.category]) (Nat.le_of_ble_eq_true rfl) (fun k C0 Q hQ => ?_)
  have C : CK k E mX12_readLine kdX12_readLine 9 0 0 := ⟨C0, kdX12_readLine_ok⟩
  have bad : ∀ (q : Nat) (M1 : MM) (v2 v3 : Option Value), q ≠ 0 → q < 100 → lineF β n (σ, D) = (refu q σ, D) → FJ o (fun j => j = 20 ∨ j = 21) M M1 → RP M1 o β (refu q σ) → PT k E Q 0 0 Sh N G M1 50 [some (.ref o), some (.int (bI D.1)), v2, v3] [] := by
    intro q M1 v2 v3 hq hq1 e hF hP1
    have e1 : (refu q σ).1 = q := by unfold refu; rw [if_pos hb0]
    refine r_aload_n C 0 rfl rfl rfl rfl ?_
    refine r_geti C rfl f_X12_139 (by assumption) rfl ?_
    rw [hP1.2.2.2.2.1, e1]
    refine r_if_eq C 59 rfl (by decide) (fun z => absurd ((nI_eq (b := 0) (by omega) (by omega)).mp z) hq) (fun _ => ?_)
    refine r_iload_n C 1 rfl rfl rfl ?_
    refine q_iret C hQ rfl rfl ?_ ⟨rfl, rfl, ⟨D.1, rfl, fun z => by rw [e] at z; exact absurd (e1.symm.trans z) hq⟩, FRd.fj (hF.mono (fun j z => by simp only [JB]; omega)), by rw [e]; exact hP1, fun z => by rw [e] at z; exact absurd (e1.symm.trans z) hq⟩
    cases D.1 <;> rfl
  have fin : ∀ (x : RdS × DR) (M1 : MM) (ie : Bool) (v3 : Option Value), PV β n x.1 → x.1.1 < 100 → lineH β n (σ, D) = x → (x.1.1 = 0 → x.2.1 = (D.1 || ie)) → LQ M o β x M1 → PT k E Q 0 0 Sh N G M1 117 [some (.ref o), some (.int (bI D.1)), some (.int (bI ie)), v3] [] := by
    intro x M1 ie v3 hvx hcx e hd hL
    have hT1 := hT.frd hL.1
    refine r_aload_n C 0 rfl rfl rfl rfl ?_
    refine v0_g C rfl mfX12_semi lk_X12_205 (by assumption) (m_semi hM hT1 hL.2.1 hvx hcx) ?_
    rintro z M2 ⟨rfl, hF, hP2⟩
    have eF : lineF β n (σ, D) = (lineT β n x.1, x.2) := by unfold lineF; rw [e]
    have back : (lineT β n x.1).1 = 0 → x.1.1 = 0 := by
      intro z
      unfold lineT at z
      by_cases y : x.1.1 = 0
      · exact y
      · rw [if_neg (fun w => y w.1)] at z
        unfold refu at z
        rw [if_neg y] at z
        exact z
    have ret : ∀ z : Bool, z = (D.1 || ie) → (∃ z' : Bool, some (Value.int (bI z)) = some (.int (bI z')) ∧ ((lineF β n (σ, D)).1.1 = 0 → z' = (lineF β n (σ, D)).2.1)) ∧ LQ M o β (lineF β n (σ, D)) M2 := by
      intro z hz
      rw [eF]
      exact ⟨⟨z, rfl, fun q => by rw [hz]; exact (hd (back q)).symm⟩, hL.1.trans (FRd.fj hF), hP2, fun q => (hL.2.2 (back q)).fj hF⟩
    refine r_iload_n C 1 rfl rfl rfl ?_
    refine r_if_ne C 129 rfl (by decide) (fun h => ?_) (fun h => ?_)
    · have h := bI_1 h
      refine r_ic (v := nI 1) C rfl (by decide) ?_
      refine r_goto C 134 rfl (by decide) ?_
      exact q_iret C hQ rfl rfl rfl ⟨rfl, rfl, ret true (by rw [h]; rfl)⟩
    · have h := bI_0 h
      refine r_iload_n C 2 rfl rfl rfl ?_
      refine r_if_eq C 133 rfl (by decide) (fun h2 => ?_) (fun h2 => ?_)
      · have h2 := bI_0 h2
        refine r_ic (v := nI 0) C rfl (by decide) ?_
        exact q_iret C hQ rfl rfl rfl ⟨rfl, rfl, ret false (by rw [h, h2]; rfl)⟩
      · have h2 := bI_1 h2
        refine r_ic (v := nI 1) C rfl (by decide) ?_
        refine r_goto C 134 rfl (by decide) ?_
        exact q_iret C hQ rfl rfl rfl ⟨rfl, rfl, ret true (by rw [h, h2]; rfl)⟩
  refine r_aload_n C 0 rfl rfl rfl rfl ?_
  refine r_ldcs (text := "earth") (n := 9) C rfl (by decide +kernel) ?_
  refine v1_r C rfl mfX12_is lk_X12_155 (by assumption) (m_is hM hT hP hv hbl (i := 9) (by decide)) ?_
  refine r_istore_n C 2 rfl rfl (by exact Nat.le_of_ble_eq_true rfl) ?_
  refine r_iload_n C 2 rfl rfl rfl ?_
  rw [ed, Bool.true_and, w01]
  cases hE : wd (wordB 0) β σ with
  | true =>
    refine r_if_ne C 37 rfl (by decide) (fun _ => ?_) (fun h => absurd h (by decide))
    refine r_iload_n C 2 rfl rfl rfl ?_
    refine r_if_eq C 50 rfl (by decide) (fun h => absurd h (by decide)) (fun _ => ?_)
    have eH : lineH β n (σ, D) = rdE β n σ D := by unfold lineH; rw [if_pos hE]
    have earth : D.1 = false → PT k E Q 0 0 Sh N G M 50 [some (.ref o), some (.int (bI D.1)), some (.int (bI true)), none] [] := by
      intro hD1
      obtain ⟨v1, v2, v3⟩ := rE_rv hv
      have hv0 := adv_rv hv
      have c0 : (adv β n σ).1 < 100 := hbl
      have c1 : (rE1 β n σ).2.1 < 100 := takeN_c 0 99 c0
      have c2 : (rE2 β n σ).2.1 < 100 := takeN_c 0 99 c1
      have c3 : (rE3 β n σ).2.1 < 100 := takeN_c 0 99 c2
      have er : rdE β n σ D = ((rE3 β n σ).2, (true, ((rE1 β n σ).1, (rE2 β n σ).1, (rE3 β n σ).1), D.2.2)) := by unfold rdE; rw [hD1, if_neg ff_t]
      refine r_aload_n C 0 rfl rfl rfl rfl ?_
      refine r_geti C rfl f_X12_139 (by assumption) rfl ?_
      rw [hP.2.2.2.2.1, hb0]
      refine r_if_eq C 59 rfl (by decide) (fun _ => ?_) (fun z => absurd rfl z)
      refine r_iload_n C 2 rfl rfl rfl ?_
      refine r_if_eq C 97 rfl (by decide) (fun h => absurd h (by decide)) (fun _ => ?_)
      refine r_aload_n C 0 rfl rfl rfl rfl ?_
      refine v0_g C rfl mfX12_stepOn lk_X12_159 (by assumption) (m_adv hM hT hP hv) ?_
      rintro z M1 ⟨rfl, hF1, hP1⟩
      have hF1 := JT_JB hF1
      have hT1 := hT.fj hF1 (by decide)
      have hI : IK M M1 o n β D (adv β n σ) := ⟨FRd.fj hF1, hR.fj hF1, hP1, hT1⟩
      refine r_ic (v := nI 3) C rfl (by decide) ?_
      refine r_istore_n C 3 rfl rfl (by exact Nat.le_of_ble_eq_true rfl) ?_
      refine r_iload_n C 3 rfl rfl rfl ?_
      refine r_bi (v := nI 6) C rfl (by decide) ?_
      refine r_icmp_ge C 94 rfl (by decide) (fun h => absurd h (by decide)) (fun _ => ?_)
      refine r_aload_n C 0 rfl rfl rfl rfl ?_
      refine r_getv C rfl f_X12_19 (by assumption) rfl ?_
      refine r_iload_n C 3 rfl rfl rfl ?_
      refine r_aload_n C 0 rfl rfl rfl rfl ?_
      refine r_ic (v := nI 0) C rfl (by decide) ?_
      refine r_bi (v := nI 99) C rfl (by decide) ?_
      refine v2_g C rfl mfX12_readNumber lk_X12_169 (by assumption) (m_readNumber hM hT1 hP1 hv0.1 c0 0 99 rfl rfl (by decide) (by decide)) ?_
      rintro z M2 ⟨⟨z1, rfl, hz1⟩, hF2, hP2⟩
      have hI := hI.fj hF2 (σ' := (rE1 β n σ).2) hP2
      refine r_iast C rfl (by assumption) (3) rfl (by omega) (by decide) ?_
      refine r_iinc (c := nI 1) C rfl rfl (by decide) ?_
      refine r_goto C 69 rfl (by decide) ?_
      refine r_iload_n C 3 rfl rfl rfl ?_
      refine r_bi (v := nI 6) C rfl (by decide) ?_
      have hT3 : RTx (up M2 (o + 4) 3 z1) o n β := ⟨hn, by rw [up_row _ _ (by omega)]; exact hI.2.2.2.2.1, fun i hi => by rw [up_row _ _ (by omega)]; exact hI.2.2.2.2.2.1 i hi, hT.2.2.2⟩
      refine r_icmp_ge C 94 rfl (by decide) (fun h => absurd h (by decide)) (fun _ => ?_)
      refine r_aload_n C 0 rfl rfl rfl rfl ?_
      refine r_getv C rfl f_X12_19 (by assumption) rfl ?_
      refine r_iload_n C 3 rfl rfl rfl ?_
      refine r_aload_n C 0 rfl rfl rfl rfl ?_
      refine r_ic (v := nI 0) C rfl (by decide) ?_
      refine r_bi (v := nI 99) C rfl (by decide) ?_
      refine v2_g C rfl mfX12_readNumber lk_X12_169 (by assumption) (m_readNumber hM hT3 (hI.2.2.1.cell (c := o + 4) z1 (by omega)) v1.1 c1 0 99 rfl rfl (by decide) (by decide)) ?_
      rintro z M4 ⟨⟨z2, rfl, hz2⟩, hF4, hP4⟩
      have hT4 := hT3.fj hF4 (by decide)
      refine r_iast C rfl (by assumption) (4) rfl (by omega) (by decide) ?_
      refine r_iinc (c := nI 1) C rfl rfl (by decide) ?_
      refine r_goto C 69 rfl (by decide) ?_
      refine r_iload_n C 3 rfl rfl rfl ?_
      refine r_bi (v := nI 6) C rfl (by decide) ?_
      have hT5 : RTx (up M4 (o + 4) 4 z2) o n β := ⟨hn, by rw [up_row _ _ (by omega)]; exact hT4.2.1, fun i hi => by rw [up_row _ _ (by omega)]; exact hT4.2.2.1 i hi, hT.2.2.2⟩
      have hP4 : RP M4 o β (rE2 β n σ).2 := hP4
      refine r_icmp_ge C 94 rfl (by decide) (fun h => absurd h (by decide)) (fun _ => ?_)
      refine r_aload_n C 0 rfl rfl rfl rfl ?_
      refine r_getv C rfl f_X12_19 (by assumption) rfl ?_
      refine r_iload_n C 3 rfl rfl rfl ?_
      refine r_aload_n C 0 rfl rfl rfl rfl ?_
      refine r_ic (v := nI 0) C rfl (by decide) ?_
      refine r_bi (v := nI 99) C rfl (by decide) ?_
      refine v2_g C rfl mfX12_readNumber lk_X12_169 (by assumption) (m_readNumber hM hT5 (hP4.cell (c := o + 4) z2 (by omega)) v2.1 c2 0 99 rfl rfl (by decide) (by decide)) ?_
      rintro z M6 ⟨⟨z3, rfl, hz3⟩, hF6, hP6⟩
      have hP6 : RP M6 o β (rE3 β n σ).2 := hP6
      refine r_iast C rfl (by assumption) (5) rfl (by omega) (by decide) ?_
      refine r_iinc (c := nI 1) C rfl rfl (by decide) ?_
      refine r_goto C 69 rfl (by decide) ?_
      refine r_iload_n C 3 rfl rfl rfl ?_
      refine r_bi (v := nI 6) C rfl (by decide) ?_
      refine r_icmp_ge C 94 rfl (by decide) (fun _ => ?_) (fun z => absurd (by decide) z)
      refine r_goto C 117 rfl (by decide) ?_
      have cel : ∀ c, c ≠ o → c ≠ o + 4 → up M6 (o + 4) 5 z3 c = M2 c := by
        intro c q1 q2
        rw [up_row _ _ q2, hF6.1 _ q1, up_row _ _ q2, hF4.1 _ q1, up_row _ _ q2]
      have fld : ∀ j, ¬ JB j → up M6 (o + 4) 5 z3 o j = M2 o j := by
        intro j hj
        rw [up_row _ _ (by omega), hF6.2 _ hj, up_row _ _ (by omega), hF4.2 _ hj, up_row _ _ (by omega)]
      have ear : ∀ i, up M6 (o + 4) 5 z3 (o + 4) i = if i = 5 then z3 else if i = 4 then z2 else if i = 3 then z1 else M2 (o + 4) i := by
        intro i
        by_cases i5 : i = 5
        · rw [i5, up_same, if_pos rfl]
        · rw [up_ne _ _ (by omega), hF6.1 _ (by omega), if_neg i5]
          by_cases i4 : i = 4
          · rw [i4, up_same, if_pos rfl]
          · rw [up_ne _ _ (by omega), hF4.1 _ (by omega), if_neg i4]
            by_cases i3 : i = 3
            · rw [i3, up_same, if_pos rfl]
            · rw [up_ne _ _ (by omega), if_neg i3]
      have hFd : FRd o M2 (up M6 (o + 4) 5 z3) := ⟨fun c q1 q2 q3 => cel c q1 (by omega), fun r _ _ j _ => by rw [mrow_cell (cel _ (by omega) (by omega))], fun j _ q => fld j q, fun i hi => by rw [ear, if_neg (by omega), if_neg (by omega), if_neg (by omega)], fun k _ => by rw [cel _ (by omega) (by omega), cel _ (by omega) (by omega), cel _ (by omega) (by omega)]; exact ⟨rfl, rfl, rfl⟩, by rw [cel _ (by omega) (by omega)]⟩
      refine fin (rdE β n σ D) _ true _ (by rw [er]; exact v3.1) (by rw [er]; exact c3) eH (fun _ => by rw [er, Bool.or_true]) ⟨hI.1.trans hFd, by rw [er]; exact hP6.cell _ (by omega), fun hz => ?_⟩
      rw [er] at hz ⊢
      have hz : (rE3 β n σ).2.1 = 0 := hz
      have y2 : (rE2 β n σ).2.1 = 0 := takeN_0 hz
      have y1 : (rE1 β n σ).2.1 = 0 := takeN_0 y2
      obtain ⟨d1, d2, d3, d4, d5⟩ := hI.2.1
      refine ⟨by rw [fld 5 (by decide)]; exact d1, by rw [cel _ (by omega) (by omega)]; exact d2, ⟨?_, ?_, ?_⟩, fun i hi j hj => by rw [mrow_cell (cel _ (by omega) (by omega))]; exact d4 i hi j hj, fun k hk => by rw [cel _ (by omega) (by omega), cel _ (by omega) (by omega), cel _ (by omega) (by omega)]; exact d5 k hk⟩
      · rw [ear, if_neg (by decide), if_neg (by decide), if_pos rfl]; exact hz1 y1
      · rw [ear, if_neg (by decide), if_pos rfl]; exact hz2 y2
      · rw [ear, if_pos rfl]; exact hz3 hz
    refine r_iload_n C 1 rfl rfl rfl ?_
    cases hD1 : D.1 with
    | true =>
      refine r_if_eq C 50 rfl (by decide) (fun h => absurd h (by decide)) (fun _ => ?_)
      refine r_aload_n C 0 rfl rfl rfl rfl ?_
      refine r_ic (v := nI 3) C rfl (by decide) ?_
      refine v1_g C rfl mfX12_wrong lk_X12_162 (by assumption) (m_wrong hM hP hv hn 3 rfl (by decide) hbl) ?_
      rintro z M1 ⟨rfl, hF, hP1⟩
      rw [← hD1]
      exact bad 3 M1 _ _ (by decide) (by decide) (by unfold lineF; rw [eH]; unfold rdE; rw [hD1, if_pos tt_t, lineT_bad (by decide)]) hF hP1
    | false =>
      refine r_if_eq C 50 rfl (by decide) (fun _ => ?_) (fun z => absurd rfl z)
      rw [← hD1]
      exact earth hD1
  | false =>
    refine r_if_ne C 37 rfl (by decide) (fun h => absurd rfl h) (fun _ => ?_)
    have other : ∀ v3 : Option Value, (wd (wordB 1) β σ = true ∨ wd (wordB 2) β σ = true) → PT k E Q 0 0 Sh N G M 37 [some (.ref o), some (.int (bI D.1)), some (.int (bI false)), v3] [] := by
      intro v3 hw
      refine r_iload_n C 2 rfl rfl rfl ?_
      refine r_if_eq C 50 rfl (by decide) (fun _ => ?_) (fun z => absurd rfl z)
      refine r_aload_n C 0 rfl rfl rfl rfl ?_
      refine r_geti C rfl f_X12_139 (by assumption) rfl ?_
      rw [hP.2.2.2.2.1, hb0]
      refine r_if_eq C 59 rfl (by decide) (fun _ => ?_) (fun z => absurd rfl z)
      refine r_iload_n C 2 rfl rfl rfl ?_
      refine r_if_eq C 97 rfl (by decide) (fun _ => ?_) (fun z => absurd rfl z)
      refine r_aload_n C 0 rfl rfl rfl rfl ?_
      refine r_ldcs (text := "wall") (n := 10) C rfl (by decide +kernel) ?_
      refine v1_r C rfl mfX12_is lk_X12_155 (by assumption) (m_is hM hT hP hv hbl (i := 10) (by decide)) ?_
      rw [ed, Bool.true_and, w11]
      refine r_if_eq C 113 rfl (by decide) (fun h => ?_) (fun h => ?_)
      · have h := bI_0 h
        have h2 : wd (wordB 2) β σ = true := hw.elim (fun z => by rw [h] at z; cases z) id
        have eH : lineH β n (σ, D) = rdK β n σ D := by unfold lineH; rw [if_neg (by rw [hE]; decide), if_neg (by rw [h]; decide), if_pos h2]
        refine r_aload_n C 0 rfl rfl rfl rfl ?_
        refine v0_g C rfl mfX12_readWeek lk_X12_202 (by assumption) (m_readWeek hM hT hP hv hb0 hR hD) ?_
        rintro z M1 ⟨rfl, hL⟩
        refine fin (rdK β n σ D) M1 false _ ?_ ?_ eH (fun _ => ?_) hL
        · unfold rdK; split
          · exact (refu_rv 2 hv).1
          · exact (rK_rv hv).2.2.1
        · unfold rdK; split
          · exact refu_c (by decide) hbl
          · exact takeW_c _ (takeN_c 0 99 (takeN_c 0 99 hbl))
        · unfold rdK; split <;> rw [Bool.or_false]
      · have h := bI_1 h
        have eH : lineH β n (σ, D) = rdW β n σ D := by unfold lineH; rw [if_neg (by rw [hE]; decide), if_pos h]
        refine r_aload_n C 0 rfl rfl rfl rfl ?_
        refine v0_g C rfl mfX12_readWall lk_X12_199 (by assumption) (m_readWall hM hT hP hv hb0 hR hD) ?_
        rintro z M1 ⟨rfl, hL⟩
        refine r_goto C 117 rfl (by decide) ?_
        refine fin (rdW β n σ D) M1 false _ ?_ ?_ eH (fun _ => ?_) hL
        · unfold rdW; split
          · exact (refu_rv 2 hv).1
          · exact (rW_rv hv).2.2.2.2.2.1
        · unfold rdW; split
          · exact refu_c (by decide) hbl
          · exact takeO_c _ 100 100 (takeO_c _ 100 100 (takeW_c _ (takeO_c _ 9 0 (takeO_c _ 20 0 (takeN_c 1 6 hbl)))))
        · unfold rdW; split <;> rw [Bool.or_false]
    refine r_aload_n C 0 rfl rfl rfl rfl ?_
    refine r_ldcs (text := "wall") (n := 10) C rfl (by decide +kernel) ?_
    refine v1_r C rfl mfX12_is lk_X12_155 (by assumption) (m_is hM hT hP hv hbl (i := 10) (by decide)) ?_
    rw [ed, Bool.true_and, w11]
    refine r_if_ne C 37 rfl (by decide) (fun h => other _ (Or.inl (bI_1 h))) (fun h1 => ?_)
    have h1 := bI_0 h1
    refine r_aload_n C 0 rfl rfl rfl rfl ?_
    refine r_ldcs (text := "week") (n := 11) C rfl (by decide +kernel) ?_
    refine v1_r C rfl mfX12_is lk_X12_155 (by assumption) (m_is hM hT hP hv hbl (i := 11) (by decide)) ?_
    rw [ed, Bool.true_and, w21]
    refine r_if_ne C 37 rfl (by decide) (fun h => other _ (Or.inr (bI_1 h))) (fun h2 => ?_)
    have h2 := bI_0 h2
    refine r_aload_n C 0 rfl rfl rfl rfl ?_
    refine r_ic (v := nI 1) C rfl (by decide) ?_
    refine v1_g C rfl mfX12_wrong lk_X12_162 (by assumption) (m_wrong hM hP hv hn 1 rfl (by decide) hbl) ?_
    rintro z M1 ⟨rfl, hF, hP1⟩
    refine r_goto C 50 rfl (by decide) ?_
    exact bad 1 M1 _ _ (by decide) (by decide) (by unfold lineF lineH; rw [if_neg (by rw [hE]; decide), if_neg (by rw [h1]; decide), if_neg (by rw [h2]; decide), lineT_bad (by decide)]) hF hP1
end RREAD4
