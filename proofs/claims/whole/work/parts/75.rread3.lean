section RREAD3
variable {E : VE} {Sh : Nat → SE} {N : Nat} {G : Bool} {M M' M'' M0 : MM} {o n b : Nat} {β : Nat → Int32} {σ σ' : RdS} {D : DR}
/-- a new wall's row -/
def frow (tr : Nat → Nat) (i : Nat) : Row := fun j => if j = 0 then nI (tr (6 * i)) else if j = 2 then nI (tr (6 * i + 1)) else if j = 3 then nI (tr (6 * i + 2)) else if j = 4 then nI (tr (6 * i + 3)) else if j = 5 then nI (tr (6 * i + 4)) else if j = 6 then nI (tr (6 * i + 5)) else 0
/-- what the reference keeps of a text that it reads -/
def RDr (M : MM) (o : Nat) (D : DR) : Prop := M o 5 = nI D.2.2.1.1 ∧ M (o + 8) 1 = nI D.2.2.2.1 ∧ (M (o + 4) 3 = nI D.2.1.1 ∧ M (o + 4) 4 = nI D.2.1.2.1 ∧ M (o + 4) 5 = nI D.2.1.2.2) ∧ (∀ i, i < D.2.2.1.1 → ∀ j, j < 325 → mrow M o (4 + i) j = frow D.2.2.1.2 i j) ∧ ∀ k, k < D.2.2.2.1 → M (o + 5) (30 + k) = nI (D.2.2.2.2 (3 * k)) ∧ M (o + 6) (30 + k) = nI (D.2.2.2.2 (3 * k + 1)) ∧ M (o + 7) (30 + k) = nI (D.2.2.2.2 (3 * k + 2))
/-- what reading leaves as it was -/
def FRd (o : Nat) (M M' : MM) : Prop := (∀ c, c ≠ o → c ≠ o + 1 → ¬ (o + 4 ≤ c ∧ c ≤ o + 8) → M' c = M c) ∧ (∀ r, r < 36 → ¬ (4 ≤ r ∧ r < 8) → ∀ j, j < 325 → mrow M' o r j = mrow M o r j) ∧ (∀ j, j ≠ 5 → ¬ JB j → M' o j = M o j) ∧ (∀ i, i < 3 → M' (o + 4) i = M (o + 4) i) ∧ (∀ k, k < 30 → M' (o + 5) k = M (o + 5) k ∧ M' (o + 6) k = M (o + 6) k ∧ M' (o + 7) k = M (o + 7) k) ∧ M' (o + 8) 0 = M (o + 8) 0
theorem FRd.rfl : FRd o M M := ⟨fun _ _ _ _ => Eq.refl _, fun _ _ _ _ _ => Eq.refl _, fun _ _ _ => Eq.refl _, fun _ _ => Eq.refl _, fun _ _ => ⟨Eq.refl _, Eq.refl _, Eq.refl _⟩, Eq.refl _⟩
theorem FRd.trans (h : FRd o M M') (h' : FRd o M' M'') : FRd o M M'' := ⟨fun c h1 h2 h3 => (h'.1 c h1 h2 h3).trans (h.1 c h1 h2 h3), fun r h1 h2 j h3 => (h'.2.1 r h1 h2 j h3).trans (h.2.1 r h1 h2 j h3), fun j h1 h2 => (h'.2.2.1 j h1 h2).trans (h.2.2.1 j h1 h2), fun i hi => (h'.2.2.2.1 i hi).trans (h.2.2.2.1 i hi), fun k hk => ⟨(h'.2.2.2.2.1 k hk).1.trans (h.2.2.2.2.1 k hk).1, (h'.2.2.2.2.1 k hk).2.1.trans (h.2.2.2.2.1 k hk).2.1, (h'.2.2.2.2.1 k hk).2.2.trans (h.2.2.2.2.1 k hk).2.2⟩, h'.2.2.2.2.2.trans h.2.2.2.2.2⟩
theorem mrow_cell {r : Nat} (h : M' (o + 1) = M (o + 1)) : mrow M' o r = mrow M o r := by funext j; simp only [mrow]; rw [h]
theorem FRd.fj (h : FJ o JB M M') : FRd o M M' := ⟨fun c h1 _ _ => h.1 c h1, fun r _ _ j _ => by rw [mrow_cell (h.1 _ (by omega))], fun j _ h2 => h.2 j h2, fun i _ => by rw [h.1 _ (by omega)], fun k _ => by rw [h.1 _ (by omega), h.1 _ (by omega), h.1 _ (by omega)]; exact ⟨Eq.refl _, Eq.refl _, Eq.refl _⟩, by rw [h.1 _ (by omega)]⟩
theorem RDr.fj (h : RDr M o D) (hF : FJ o JB M M') : RDr M' o D := by
  obtain ⟨h1, h2, h3, h4, h5⟩ := h
  refine ⟨(hF.2 5 (by decide)).trans h1, ?_, ?_, fun i hi j hj => ?_, fun k hk => ?_⟩
  · rw [hF.1 _ (by omega)]; exact h2
  · rw [hF.1 _ (by omega)]; exact h3
  · rw [mrow_cell (hF.1 _ (by omega))]; exact h4 i hi j hj
  · rw [hF.1 _ (by omega), hF.1 _ (by omega), hF.1 _ (by omega)]; exact h5 k hk
theorem RTx.frd (h : RTx M o n β) (hF : FRd o M M') : RTx M' o n β := ⟨h.1, (hF.2.2.1 15 (by decide) (by decide)).trans h.2.1, fun i hi => by rw [hF.1 _ (by omega) (by omega) (by omega)]; exact h.2.2.1 i hi, h.2.2.2⟩
theorem JT_JB (h : FJ o JT M M') : FJ o JB M M' := h.mono (fun j z => by simp only [JB]; simp only [JT] at z; omega)
/-- between the steps of a wall's line -/
def IW (M0 M : MM) (o n : Nat) (β : Nat → Int32) (D : DR) (R : Row) (σ : RdS) : Prop := FRd o M0 M ∧ RDr M o D ∧ RP M o β σ ∧ RTx M o n β ∧ ∀ j, j < 325 → mrow M o (4 + D.2.2.1.1) j = R j
theorem IW.fj {R : Row} (h : IW M0 M o n β D R σ) (hF : FJ o JB M M') (hP : RP M' o β σ') : IW M0 M' o n β D R σ' := ⟨h.1.trans (FRd.fj hF), h.2.1.fj hF, hP, h.2.2.2.1.fj hF (by decide), fun j hj => by rw [mrow_cell (hF.1 _ (by omega))]; exact h.2.2.2.2 j hj⟩
theorem mrow_up {r r' w j : Nat} (v : Int32) (hj : j < 325) (hw : w < 325) (hr : r ≠ r') : mrow (up M (o + 1) (325 * r' + w) v) o r j = mrow M o r j := by
  simp only [mrow]
  rw [up_ne _ _ (by omega)]
theorem IW.put {R : Row} (h : IW M0 M o n β D R σ) (hD : D.2.2.1.1 < 4) {w : Nat} (hw : w < 325) (v : Int32) : IW M0 (up M (o + 1) (325 * (4 + D.2.2.1.1) + w) v) o n β D (upd R w v) σ := by
  obtain ⟨h1, ⟨d1, d2, d3, d4, d5⟩, h3, h4, h5⟩ := h
  refine ⟨h1.trans ⟨fun c q1 q2 q3 => up_row _ _ q2, fun r q1 q2 j q3 => mrow_up v q3 hw (by omega), fun j _ _ => by rw [up_row _ _ (by omega)], fun i _ => by rw [up_row _ _ (by omega)], fun k _ => by rw [up_row _ _ (by omega), up_row _ _ (by omega), up_row _ _ (by omega)]; exact ⟨Eq.refl _, Eq.refl _, Eq.refl _⟩, by rw [up_row _ _ (by omega)]⟩, ⟨?_, ?_, ?_, fun i hi j hj => ?_, fun k hk => ?_⟩, ?_, ⟨h4.1, ?_, fun i hi => ?_, h4.2.2.2⟩, fun j hj => ?_⟩
  · rw [up_row _ _ (by omega)]; exact d1
  · rw [up_row _ _ (by omega)]; exact d2
  · rw [up_row _ _ (by omega)]; exact d3
  · rw [mrow_up v hj hw (by omega)]; exact d4 i hi j hj
  · rw [up_row _ _ (by omega), up_row _ _ (by omega), up_row _ _ (by omega)]; exact d5 k hk
  · unfold RP
    rw [up_row _ _ (by omega)]
    exact h3
  · rw [up_row _ _ (by omega)]; exact h4.2.1
  · rw [up_row _ _ (by omega)]; exact h4.2.2.1 i hi
  · by_cases e : j = w
    · subst e
      rw [upd_self]
      simp only [mrow]
      rw [up_same]
    · rw [upd_other _ _ e]
      simp only [mrow]
      rw [up_ne _ _ (by omega)]
      exact h5 j hj
/-- what the reading of a line's part owes -/
abbrev LQ (M : MM) (o : Nat) (β : Nat → Int32) (x : RdS × DR) (M' : MM) : Prop := FRd o M M' ∧ RP M' o β x.1 ∧ (x.1.1 = 0 → RDr M' o x.2)
theorem m_readWall (hM : MO Sh N o) (hT : RTx M o n β) (hP : RP M o β σ) (hv : PV β n σ) (hb0 : σ.1 = 0) (hR : RDr M o D) (hD : DV D) : Con E mX12_readWall 8 0 0 [.ref o] Sh N G M (PR Sh N (fun v M' => v = none ∧ LQ M o β (rdW β n σ D) M')) nox := by
  have h0 := hM.1
  have hn := hT.1
  have hD4 := hD.2.1
  obtain ⟨v1, v2, v3, v4, v5, v6⟩ := rW_rv hv
  have hv0 := adv_rv hv
  have c0 : (adv β n σ).1 < 100 := by show σ.1 < 100; omega
  have c1 : (rW1 β n σ).2.1 < 100 := takeN_c 1 6 c0
  have c2 : (rW2 β n σ).2.1 < 100 := takeO_c (wordB 3) 20 0 c1
  have c3 : (rW3 β n σ).2.1 < 100 := takeO_c (wordB 4) 9 0 c2
  have c4 : (rW4 β n σ).2.1 < 100 := takeW_c (wordB 5) c3
  have c5 : (rW5 β n σ).2.1 < 100 := takeO_c (wordB 6) 100 100 c4
  refine Con.ofQ (by decide +kernel) (by simp [Value.category]) (Nat.le_of_ble_eq_true rfl) (fun k C0 Q hQ => ?_)
  have C : CK k E mX12_readWall kdX12_readWall 8 0 0 := ⟨C0, kdX12_readWall_ok⟩
  refine r_aload_n C 0 rfl rfl rfl rfl ?_
  refine r_geti C rfl f_X12_172 (by assumption) rfl ?_
  refine r_ic (v := nI 4) C rfl (by decide) ?_
  rw [hR.1]
  refine r_icmp_ne C 13 rfl (by decide) (fun h4 => ?_) (fun h4 => ?_)
  rotate_left
  · have h4 : D.2.2.1.1 = 4 := (nI_eq (b := 4) (by omega) (by omega)).mp h4
    have e : rdW β n σ D = (refu 2 σ, D) := by unfold rdW; rw [if_pos (by omega)]
    have e1 : (refu 2 σ).1 = 2 := by unfold refu; rw [if_pos hb0]
    refine r_aload_n C 0 rfl rfl rfl rfl ?_
    refine r_ic (v := nI 2) C rfl (by decide) ?_
    refine v1_g C rfl mfX12_wrong lk_X12_162 (by assumption) (m_wrong hM hP hv hn 2 rfl (by decide) (by omega)) ?_
    rintro z M1 ⟨rfl, hF, hP1⟩
    have hF := hF.mono (J' := JB) (fun j z => by simp only [JB]; omega)
    refine r_aload_n C 0 rfl rfl rfl rfl ?_
    refine r_geti C rfl f_X12_139 (by assumption) rfl ?_
    rw [hP1.2.2.2.2.1, e1]
    refine r_if_eq C 21 rfl (by decide) (fun z => absurd z (by decide)) (fun _ => ?_)
    exact q_vret C hQ rfl rfl ⟨rfl, rfl, rfl, FRd.fj hF, by rw [e]; exact hP1, fun z => by rw [e] at z; exact absurd (e1.symm.trans z) (by decide)⟩
  have h4 : D.2.2.1.1 < 4 := by
    have : D.2.2.1.1 ≠ 4 := fun z => h4 (by rw [z])
    omega
  refine r_aload_n C 0 rfl rfl rfl rfl ?_
  refine r_geti C rfl f_X12_139 (by assumption) rfl ?_
  rw [hP.2.2.2.2.1, hb0]
  refine r_if_eq C 21 rfl (by decide) (fun _ => ?_) (fun z => absurd rfl z)
  refine r_aload_n C 0 rfl rfl rfl rfl ?_
  refine v0_g C rfl mfX12_stepOn lk_X12_159 (by assumption) (m_adv hM hT hP hv) ?_
  rintro z M1 ⟨rfl, hF1, hP1⟩
  have hF1 := JT_JB hF1
  have hR1 := hR.fj hF1
  refine r_ic (v := nI 4) C rfl (by decide) ?_
  refine r_aload_n C 0 rfl rfl rfl rfl ?_
  refine r_geti C rfl f_X12_172 (by assumption) rfl ?_
  rw [hR1.1]
  refine r_iadd C rfl ?_
  rw [nI_add]
  have rest : ∀ (M2 : MM) (R : Row), (∀ j, j < 325 → R j = 0) → IW M M2 o n β D R (adv β n σ) → PT k E Q 0 0 Sh N G M2 54 [some (.ref o), some (.int (nI (4 + D.2.2.1.1))), some (.int (nI 325))] [] := by
    intro M2 R hR0 hI
    refine r_aload_n C 0 rfl rfl rfl rfl ?_
    refine r_iload_n C 1 rfl rfl rfl ?_
    refine r_ic (v := nI 0) C rfl (by decide) ?_
    refine r_aload_n C 0 rfl rfl rfl rfl ?_
    refine r_ic (v := nI 1) C rfl (by decide) ?_
    refine r_bi (v := nI 6) C rfl (by decide) ?_
    refine v2_g C rfl mfX12_readNumber lk_X12_169 (by assumption) (m_readNumber hM hI.2.2.2.1 hI.2.2.1 hv0.1 c0 1 6 rfl rfl (by decide) (by decide)) ?_
    rintro z M3 ⟨⟨z1, rfl, hz1⟩, hF3, hP3⟩
    have hI := hI.fj hF3 (σ' := (rW1 β n σ).2) hP3
    refine v3_v C rfl mfX12_put lk_X12_175 (by assumption) (c_X12_put hM (4 + D.2.2.1.1) 0 rfl rfl (by omega) (by decide)) ?_
    have hI := hI.put h4 (w := 0) (by decide) z1
    refine r_aload_n C 0 rfl rfl rfl rfl ?_
    refine r_iload_n C 1 rfl rfl rfl ?_
    refine r_ic (v := nI 2) C rfl (by decide) ?_
    refine r_aload_n C 0 rfl rfl rfl rfl ?_
    refine r_ldcs (text := "ground") (n := 12) C rfl (by decide +kernel) ?_
    refine r_bi (v := nI 20) C rfl (by decide) ?_
    refine r_ic (v := nI 0) C rfl (by decide) ?_
    refine v3_g C rfl mfX12_perhaps lk_X12_181 (by assumption) (m_perhaps hM hI.2.2.2.1 hI.2.2.1 v1.1 c1 (i := 12) (by decide) 20 0 rfl rfl (by decide)) ?_
    rintro z M4 ⟨⟨z2, rfl, hz2⟩, hF4, hP4⟩
    have hI := hI.fj hF4 (σ' := (rW2 β n σ).2) hP4
    refine v3_v C rfl mfX12_put lk_X12_175 (by assumption) (c_X12_put hM (4 + D.2.2.1.1) 2 rfl rfl (by omega) (by decide)) ?_
    have hI := hI.put h4 (w := 2) (by decide) z2
    refine r_aload_n C 0 rfl rfl rfl rfl ?_
    refine r_iload_n C 1 rfl rfl rfl ?_
    refine r_ic (v := nI 3) C rfl (by decide) ?_
    refine r_aload_n C 0 rfl rfl rfl rfl ?_
    refine r_ldcs (text := "shoes") (n := 13) C rfl (by decide +kernel) ?_
    refine r_bi (v := nI 9) C rfl (by decide) ?_
    refine r_ic (v := nI 0) C rfl (by decide) ?_
    refine v3_g C rfl mfX12_perhaps lk_X12_181 (by assumption) (m_perhaps hM hI.2.2.2.1 hI.2.2.1 v2.1 c2 (i := 13) (by decide) 9 0 rfl rfl (by decide)) ?_
    rintro z M5 ⟨⟨z3, rfl, hz3⟩, hF5, hP5⟩
    have hI := hI.fj hF5 (σ' := (rW3 β n σ).2) hP5
    refine v3_v C rfl mfX12_put lk_X12_175 (by assumption) (c_X12_put hM (4 + D.2.2.1.1) 3 rfl rfl (by omega) (by decide)) ?_
    have hI := hI.put h4 (w := 3) (by decide) z3
    refine r_aload_n C 0 rfl rfl rfl rfl ?_
    refine r_iload_n C 1 rfl rfl rfl ?_
    refine r_ic (v := nI 4) C rfl (by decide) ?_
    refine r_aload_n C 0 rfl rfl rfl rfl ?_
    refine r_ldcs (text := "hat") (n := 14) C rfl (by decide +kernel) ?_
    refine v1_g C rfl mfX12_passes lk_X12_166 (by assumption) (m_passes hM hI.2.2.2.1 hI.2.2.1 v3.1 c3 (i := 14) (by decide)) ?_
    rintro z M6 ⟨rfl, hF6, hP6⟩
    have hI := hI.fj (JT_JB hF6) (σ' := (rW4 β n σ).2) hP6
    have rest2 : ∀ z4 : Int32, z4 = bI (rW4 β n σ).1 → PT k E Q 0 0 Sh N G M6 114 [some (.ref o), some (.int (nI (4 + D.2.2.1.1))), some (.int (nI 325))] [.int z4, .int (nI 4), .int (nI (4 + D.2.2.1.1)), .ref o] := by
      intro z4 hz4
      refine v3_v C rfl mfX12_put lk_X12_175 (by assumption) (c_X12_put hM (4 + D.2.2.1.1) 4 rfl rfl (by omega) (by decide)) ?_
      have hI := hI.put h4 (w := 4) (by decide) z4
      refine r_aload_n C 0 rfl rfl rfl rfl ?_
      refine r_iload_n C 1 rfl rfl rfl ?_
      refine r_ic (v := nI 5) C rfl (by decide) ?_
      refine r_aload_n C 0 rfl rfl rfl rfl ?_
      refine r_ldcs (text := "outer") (n := 15) C rfl (by decide +kernel) ?_
      refine r_bi (v := nI 100) C rfl (by decide) ?_
      refine r_bi (v := nI 100) C rfl (by decide) ?_
      refine v3_g C rfl mfX12_perhaps lk_X12_181 (by assumption) (m_perhaps hM hI.2.2.2.1 hI.2.2.1 v4.1 c4 (i := 15) (by decide) 100 100 rfl rfl (by decide)) ?_
      rintro z M7 ⟨⟨z5, rfl, hz5⟩, hF7, hP7⟩
      have hI := hI.fj hF7 (σ' := (rW5 β n σ).2) hP7
      refine v3_v C rfl mfX12_put lk_X12_175 (by assumption) (c_X12_put hM (4 + D.2.2.1.1) 5 rfl rfl (by omega) (by decide)) ?_
      have hI := hI.put h4 (w := 5) (by decide) z5
      refine r_aload_n C 0 rfl rfl rfl rfl ?_
      refine r_iload_n C 1 rfl rfl rfl ?_
      refine r_bi (v := nI 6) C rfl (by decide) ?_
      refine r_aload_n C 0 rfl rfl rfl rfl ?_
      refine r_ldcs (text := "inner") (n := 16) C rfl (by decide +kernel) ?_
      refine r_bi (v := nI 100) C rfl (by decide) ?_
      refine r_bi (v := nI 100) C rfl (by decide) ?_
      refine v3_g C rfl mfX12_perhaps lk_X12_181 (by assumption) (m_perhaps hM hI.2.2.2.1 hI.2.2.1 v5.1 c5 (i := 16) (by decide) 100 100 rfl rfl (by decide)) ?_
      rintro z M8 ⟨⟨z6, rfl, hz6⟩, hF8, hP8⟩
      have hI := hI.fj hF8 (σ' := (rW6 β n σ).2) hP8
      refine v3_v C rfl mfX12_put lk_X12_175 (by assumption) (c_X12_put hM (4 + D.2.2.1.1) 6 rfl rfl (by omega) (by decide)) ?_
      obtain ⟨hI1, ⟨d1, d2, d3, d4, d5⟩, hI3, hI4, hI5⟩ := hI.put h4 (w := 6) (by decide) z6
      obtain ⟨M9, hM9⟩ : ∃ M9, M9 = up M8 (o + 1) (325 * (4 + D.2.2.1.1) + 6) z6 := ⟨_, rfl⟩
      rw [← hM9] at hI1 d1 d2 d3 d4 d5 hI3 hI4 hI5 ⊢
      refine r_aload_n C 0 rfl rfl rfl rfl ?_
      refine r_dup C rfl rfl ?_
      refine r_geti C rfl f_X12_172 (by assumption) rfl ?_
      rw [d1]
      refine r_ic (v := nI 1) C rfl (by decide) ?_
      refine r_iadd C rfl ?_
      rw [nI_add]
      refine r_puti C rfl f_X12_172 (by assumption) rfl rfl rfl ?_
      have e : rdW β n σ D = ((rW6 β n σ).2, (D.1, D.2.1, (D.2.2.1.1 + 1, putN D.2.2.1.2 (rWt β n σ) (6 * D.2.2.1.1) 6), D.2.2.2)) := by unfold rdW; rw [if_neg (by omega)]
      have hP9 : RP (up M9 o 5 (nI (D.2.2.1.1 + 1))) o β (rW6 β n σ).2 := hI3.fj (FJ.rfl.up (J := fun j => j = 5) rfl _) (fun j _ _ => by omega)
      refine q_vret C hQ rfl rfl ⟨rfl, rfl, rfl, hI1.trans ⟨fun c q1 _ _ => up_row _ _ q1, fun r _ _ j _ => by rw [mrow_cell (up_row _ _ (by omega))], fun j q1 _ => up_ne _ _ (by omega), fun i _ => by rw [up_row _ _ (by omega)], fun k _ => by rw [up_row _ _ (by omega), up_row _ _ (by omega), up_row _ _ (by omega)]; exact ⟨Eq.refl _, Eq.refl _, Eq.refl _⟩, by rw [up_row _ _ (by omega)]⟩, by rw [e]; exact hP9, fun hz => ?_⟩
      rw [e] at hz ⊢
      have hz : (rW6 β n σ).2.1 = 0 := hz
      have y5 : (rW5 β n σ).2.1 = 0 := takeO_0 hz
      have y4 : (rW4 β n σ).2.1 = 0 := takeO_0 y5
      have y3 : (rW3 β n σ).2.1 = 0 := takeW_0 y4
      have y2 : (rW2 β n σ).2.1 = 0 := takeO_0 y3
      have y1 : (rW1 β n σ).2.1 = 0 := takeO_0 y2
      have g1 : z1 = nI (rW1 β n σ).1 := hz1 y1
      have g2 : z2 = nI (rW2 β n σ).1 := hz2 y2
      have g3 : z3 = nI (rW3 β n σ).1 := hz3 y3
      have g5 : z5 = nI (rW5 β n σ).1 := hz5 y5
      have g6 : z6 = nI (rW6 β n σ).1 := hz6 hz
      refine ⟨up_same _ _ _ _, by rw [up_row _ _ (by omega)]; exact d2, by rw [up_row _ _ (by omega)]; exact d3, fun i hi j hj => ?_, fun k hk => by rw [up_row _ _ (by omega), up_row _ _ (by omega), up_row _ _ (by omega)]; exact d5 k hk⟩
      have hi : i < D.2.2.1.1 + 1 := hi
      rw [mrow_cell (up_row _ _ (by omega))]
      show mrow M9 o (4 + i) j = frow (putN D.2.2.1.2 (rWt β n σ) (6 * D.2.2.1.1) 6) i j
      by_cases e2 : i = D.2.2.1.1
      · subst e2
        rw [hI5 j hj]
        unfold frow
        have p0 := putN_in D.2.2.1.2 (rWt β n σ) (a := 6 * D.2.2.1.1) (m := 6) (i := 0) (by decide)
        rw [Nat.add_zero] at p0
        rw [p0, putN_in _ _ (by decide), putN_in _ _ (by decide), putN_in _ _ (by decide), putN_in _ _ (by decide), putN_in _ _ (by decide)]
        by_cases j6 : j = 6
        · subst j6; rw [upd_self, g6]; rfl
        rw [upd_other _ _ j6]
        by_cases j5 : j = 5
        · subst j5; rw [upd_self, g5]; rfl
        rw [upd_other _ _ j5]
        by_cases j4 : j = 4
        · subst j4; rw [upd_self, hz4, ← bN_I]; rfl
        rw [upd_other _ _ j4]
        by_cases j3 : j = 3
        · subst j3; rw [upd_self, g3]; rfl
        rw [upd_other _ _ j3]
        by_cases j2 : j = 2
        · subst j2; rw [upd_self, g2]; rfl
        rw [upd_other _ _ j2]
        by_cases j0 : j = 0
        · subst j0; rw [upd_self, g1]; rfl
        rw [upd_other _ _ j0, hR0 j hj, if_neg j0, if_neg j2, if_neg j3, if_neg j4, if_neg j5, if_neg j6]
      · rw [d4 i (by omega) j hj]
        unfold frow
        rw [putN_out _ _ (by omega), putN_out _ _ (by omega), putN_out _ _ (by omega), putN_out _ _ (by omega), putN_out _ _ (by omega), putN_out _ _ (by omega)]
    refine r_if_eq C 113 rfl (by decide) (fun h => ?_) (fun h => ?_)
    · refine r_ic (v := nI 0) C rfl (by decide) ?_
      exact rest2 _ (by rw [show (rW4 β n σ).1 = false from bI_0 h]; rfl)
    · refine r_ic (v := nI 1) C rfl (by decide) ?_
      refine r_goto C 114 rfl (by decide) ?_
      exact rest2 _ (by rw [show (rW4 β n σ).1 = true from bI_1 h]; rfl)
  have loop : ∀ (m i : Nat) (M2 : MM) (R : Row), i + m = 325 → (∀ j, j < i → R j = 0) → IW M M2 o n β D R (adv β n σ) → PT k E Q 0 0 Sh N G M2 34 [some (.ref o), some (.int (nI (4 + D.2.2.1.1))), some (.int (nI i))] [] := by
    intro m
    induction m with
    | zero =>
      intro i M2 R hi hR0 hI
      have e : i = 325 := by omega
      subst e
      refine r_iload_n C 2 rfl rfl rfl ?_
      refine r_si (v := nI 325) C rfl (by decide) ?_
      refine r_icmp_ge C 54 rfl (by decide) (fun _ => ?_) (fun z => absurd (by decide) z)
      exact rest M2 R hR0 hI
    | succ m ih =>
      intro i M2 R hi hR0 hI
      refine r_iload_n C 2 rfl rfl rfl ?_
      refine r_si (v := nI 325) C rfl (by decide) ?_
      refine r_icmp_ge C 54 rfl (by decide) (fun z => absurd (le_nI (by omega) (by omega) z) (by omega)) (fun _ => ?_)
      refine r_aload_n C 0 rfl rfl rfl rfl ?_
      refine r_iload_n C 1 rfl rfl rfl ?_
      refine r_iload_n C 2 rfl rfl rfl ?_
      refine r_ic (v := nI 0) C rfl (by decide) ?_
      refine v3_v C rfl mfX12_put lk_X12_175 (by assumption) (c_X12_put hM (4 + D.2.2.1.1) i rfl rfl (by omega) (by omega)) ?_
      refine r_iinc (c := nI 1) C rfl rfl (by decide) ?_
      refine r_goto C 34 rfl (by decide) ?_
      refine r_eqL ?_ (ih (i + 1) _ (upd R i (nI 0)) (by omega) (fun j hj => ?_) (hI.put h4 (by omega) _))
      · first | rfl | (simp only [sm, add3, nI_add, Int32.add_zero, Int32.zero_add]; rfl)
      · by_cases e : j = i
        · rw [e, upd_self]; rfl
        · rw [upd_other _ _ e]; exact hR0 j (by omega)
  refine r_istore_n C 1 rfl rfl (by exact Nat.le_of_ble_eq_true rfl) ?_
  refine r_ic (v := nI 0) C rfl (by decide) ?_
  refine r_istore_n C 2 rfl rfl (by exact Nat.le_of_ble_eq_true rfl) ?_
  exact loop 325 0 M1 (mrow M1 o (4 + D.2.2.1.1)) (by omega) (fun j hj => by omega) ⟨FRd.fj hF1, hR1, hP1, hT.fj hF1 (by decide), fun _ _ => rfl⟩
end RREAD3
