section CREAD2
variable {E : VE} {Sh : Nat → SE} {N : Nat} {G : Bool} {M M' M'' : MM} {kr tx yd n : Nat} {β : Nat → Int32} {σ σ' : RdS} {D : DR}
def earM (M : MM) (yd : Nat) (a b c : Int32) : MM := up (up (up (up (up (up M (yd + 1) 0 a) (yd + 1) 1 b) (yd + 1) 2 c) yd 6 (nI 40 + nI 4 * a + nI 6 * c)) yd 7 (nI 3 * a - b - nI 2 * c)) yd 8 (nI 10 + nI 2 * c)
/-- the earth that a yard holds -/
def EAR (M : MM) (yd : Nat) (a b c : Int32) : Prop := (M (yd + 1) 0 = a ∧ M (yd + 1) 1 = b ∧ M (yd + 1) 2 = c) ∧ M yd 6 = nI 40 + nI 4 * a + nI 6 * c ∧ M yd 7 = nI 3 * a - b - nI 2 * c ∧ M yd 8 = nI 10 + nI 2 * c
theorem earM_row {a b c : Int32} {x : Nat} (h : x ≠ yd) (h1 : x ≠ yd + 1) : earM M yd a b c x = M x := by
  unfold earM
  rw [up_row _ _ h, up_row _ _ h, up_row _ _ h, up_row _ _ h1, up_row _ _ h1, up_row _ _ h1]
theorem earM_lo {a b c : Int32} {j : Nat} (h : j < 6) : earM M yd a b c yd j = M yd j := by
  unfold earM
  rw [up_ne _ _ (by omega), up_ne _ _ (by omega), up_ne _ _ (by omega), up_row _ _ (by omega), up_row _ _ (by omega), up_row _ _ (by omega)]
theorem earM_ear (a b c : Int32) : EAR (earM M yd a b c) yd a b c := by
  unfold EAR earM
  refine ⟨⟨?_, ?_, ?_⟩, ?_, ?_, ?_⟩
  · rw [up_row _ _ (by omega), up_row _ _ (by omega), up_row _ _ (by omega), up_ne _ _ (by omega), up_ne _ _ (by omega), up_same]
  · rw [up_row _ _ (by omega), up_row _ _ (by omega), up_row _ _ (by omega), up_ne _ _ (by omega), up_same]
  · rw [up_row _ _ (by omega), up_row _ _ (by omega), up_row _ _ (by omega), up_same]
  · rw [up_ne _ _ (by omega), up_ne _ _ (by omega), up_same]
  · rw [up_ne _ _ (by omega), up_same]
  · rw [up_same]
theorem y_setEarth (hA : YA Sh N yd) (a b c : Int32) : Con E mX10_setEarth 1 0 0 [.ref yd, .int a, .int b, .int c] Sh N G M (P1 none Sh N (earM M yd a b c)) nox := by
  obtain ⟨a0, a1, a2, a3⟩ := id hA
  refine Con.ofQ (by decide +kernel) (by simp [Value.category]) (Nat.le_of_ble_eq_true rfl) (fun k C0 Q hQ => ?_)
  have C : CK k E mX10_setEarth kdX10_setEarth 1 0 0 := ⟨C0, kdX10_setEarth_ok⟩
  refine r_aload_n C 0 rfl rfl rfl rfl ?_
  refine r_getv C rfl f_X10_9 (by assumption) rfl ?_
  refine r_ic (v := nI 0) C rfl (by decide) ?_
  refine r_iload_n C 1 rfl rfl rfl ?_
  refine r_iast C rfl (by assumption) (0) rfl (by omega) (by decide) ?_
  refine r_aload_n C 0 rfl rfl rfl rfl ?_
  refine r_getv C rfl f_X10_9 (by assumption) rfl ?_
  refine r_ic (v := nI 1) C rfl (by decide) ?_
  refine r_iload_n C 2 rfl rfl rfl ?_
  refine r_iast C rfl (by assumption) (1) rfl (by omega) (by decide) ?_
  refine r_aload_n C 0 rfl rfl rfl rfl ?_
  refine r_getv C rfl f_X10_9 (by assumption) rfl ?_
  refine r_ic (v := nI 2) C rfl (by decide) ?_
  refine r_iload_n C 3 rfl rfl rfl ?_
  refine r_iast C rfl (by assumption) (2) rfl (by omega) (by decide) ?_
  refine r_aload_n C 0 rfl rfl rfl rfl ?_
  refine r_bi (v := nI 40) C rfl (by decide) ?_
  refine r_ic (v := nI 4) C rfl (by decide) ?_
  refine r_iload_n C 1 rfl rfl rfl ?_
  refine r_imul C rfl ?_
  refine r_iadd C rfl ?_
  refine r_bi (v := nI 6) C rfl (by decide) ?_
  refine r_iload_n C 3 rfl rfl rfl ?_
  refine r_imul C rfl ?_
  refine r_iadd C rfl ?_
  refine r_puti C rfl f_X10_39 (by assumption) rfl rfl rfl ?_
  refine r_aload_n C 0 rfl rfl rfl rfl ?_
  refine r_ic (v := nI 3) C rfl (by decide) ?_
  refine r_iload_n C 1 rfl rfl rfl ?_
  refine r_imul C rfl ?_
  refine r_iload_n C 2 rfl rfl rfl ?_
  refine r_isub C rfl ?_
  refine r_ic (v := nI 2) C rfl (by decide) ?_
  refine r_iload_n C 3 rfl rfl rfl ?_
  refine r_imul C rfl ?_
  refine r_isub C rfl ?_
  refine r_puti C rfl f_X10_42 (by assumption) rfl rfl rfl ?_
  refine r_aload_n C 0 rfl rfl rfl rfl ?_
  refine r_bi (v := nI 10) C rfl (by decide) ?_
  refine r_ic (v := nI 2) C rfl (by decide) ?_
  refine r_iload_n C 3 rfl rfl rfl ?_
  refine r_imul C rfl ?_
  refine r_iadd C rfl ?_
  refine r_puti C rfl f_X10_45 (by assumption) rfl rfl rfl ?_
  exact q_vret C hQ rfl rfl ⟨rfl, rfl, rfl, rfl⟩
/-- what the class keeps of a text that it reads -/
def YDr (M : MM) (yd : Nat) (D : DR) : Prop := M yd 3 = bI D.1 ∧ M yd 4 = nI D.2.2.1.1 ∧ M yd 5 = nI D.2.2.2.1 ∧ EAR M yd (nI D.2.1.1) (nI D.2.1.2.1) (nI D.2.1.2.2) ∧ (∀ i, i < 24 → M (yd + 2) i = nI (D.2.2.1.2 i)) ∧ ∀ i, i < 90 → M (yd + 3) i = nI (D.2.2.2.2 i)
theorem YDr.cong (h : YDr M yd D) (hc : ∀ c, yd ≤ c → c < yd + 4 → M' c = M c) : YDr M' yd D := by
  unfold YDr EAR at h ⊢
  rw [hc yd (by omega) (by omega), hc (yd + 1) (by omega) (by omega), hc (yd + 2) (by omega) (by omega), hc (yd + 3) (by omega) (by omega)]
  exact h
theorem YDr.fj {J : Nat → Prop} (h : YDr M yd D) (hF : FJ kr J M M') (hk : kr < yd) : YDr M' yd D := h.cong (fun c _ _ => hF.1 c (by omega))
theorem YDr.ear (h : YDr M yd D) (a b c : Nat) : YDr (earM M yd (nI a) (nI b) (nI c)) yd (D.1, (a, b, c), D.2.2) := by
  obtain ⟨h1, h2, h3, h4, h5, h6⟩ := h
  exact ⟨by rw [earM_lo (by decide)]; exact h1, by rw [earM_lo (by decide)]; exact h2, by rw [earM_lo (by decide)]; exact h3, earM_ear _ _ _, fun i hi => by rw [earM_row (by omega) (by omega)]; exact h5 i hi, fun i hi => by rw [earM_row (by omega) (by omega)]; exact h6 i hi⟩
def updN (f : Nat → Nat) (i v : Nat) : Nat → Nat := fun j => if j = i then v else f j
theorem YDr.trt (h : YDr M yd D) {i : Nat} (v : Nat) : YDr (up M (yd + 2) i (nI v)) yd (D.1, D.2.1, (D.2.2.1.1, updN D.2.2.1.2 i v), D.2.2.2) := by
  obtain ⟨h1, h2, h3, ⟨e1, e2⟩, h5, h6⟩ := h
  refine ⟨by rw [up_row _ _ (by omega)]; exact h1, by rw [up_row _ _ (by omega)]; exact h2, by rw [up_row _ _ (by omega)]; exact h3, ⟨by rw [up_row _ _ (by omega)]; exact e1, by rw [up_row _ _ (by omega)]; exact e2⟩, fun j hj => ?_, fun j hj => by rw [up_row _ _ (by omega)]; exact h6 j hj⟩
  show up M (yd + 2) i (nI v) (yd + 2) j = nI (updN D.2.2.1.2 i v j)
  unfold updN
  by_cases e : j = i
  · rw [e, up_same, if_pos rfl]
  · rw [up_ne _ _ (by omega), if_neg e]; exact h5 j hj
theorem YDr.wkt (h : YDr M yd D) {i : Nat} (v : Nat) : YDr (up M (yd + 3) i (nI v)) yd (D.1, D.2.1, D.2.2.1, (D.2.2.2.1, updN D.2.2.2.2 i v)) := by
  obtain ⟨h1, h2, h3, ⟨e1, e2⟩, h5, h6⟩ := h
  refine ⟨by rw [up_row _ _ (by omega)]; exact h1, by rw [up_row _ _ (by omega)]; exact h2, by rw [up_row _ _ (by omega)]; exact h3, ⟨by rw [up_row _ _ (by omega)]; exact e1, by rw [up_row _ _ (by omega)]; exact e2⟩, fun j hj => by rw [up_row _ _ (by omega)]; exact h5 j hj, fun j hj => ?_⟩
  show up M (yd + 3) i (nI v) (yd + 3) j = nI (updN D.2.2.2.2 i v j)
  unfold updN
  by_cases e : j = i
  · rw [e, up_same, if_pos rfl]
  · rw [up_ne _ _ (by omega), if_neg e]; exact h6 j hj
theorem YDr.fld (h : YDr M yd D) {b : Bool} {nw nk : Nat} {j : Nat} {v : Int32} (hj : (j = 3 ∧ v = bI b ∧ nw = D.2.2.1.1 ∧ nk = D.2.2.2.1) ∨ (j = 4 ∧ v = nI nw ∧ b = D.1 ∧ nk = D.2.2.2.1) ∨ (j = 5 ∧ v = nI nk ∧ b = D.1 ∧ nw = D.2.2.1.1)) : YDr (up M yd j v) yd (b, D.2.1, (nw, D.2.2.1.2), (nk, D.2.2.2.2)) := by
  obtain ⟨h1, h2, h3, ⟨⟨e1, e2, e3⟩, e4, e5, e6⟩, h5, h6⟩ := h
  refine ⟨?_, ?_, ?_, ⟨⟨by rw [up_row _ _ (by omega)]; exact e1, by rw [up_row _ _ (by omega)]; exact e2, by rw [up_row _ _ (by omega)]; exact e3⟩, by rw [up_ne _ _ (by omega)]; exact e4, by rw [up_ne _ _ (by omega)]; exact e5, by rw [up_ne _ _ (by omega)]; exact e6⟩, fun i hi => by rw [up_row _ _ (by omega)]; exact h5 i hi, fun i hi => by rw [up_row _ _ (by omega)]; exact h6 i hi⟩
  · rcases hj with ⟨rfl, rfl, rfl, rfl⟩ | ⟨rfl, rfl, rfl, rfl⟩ | ⟨rfl, rfl, rfl, rfl⟩
    · rw [up_same]
    · rw [up_ne _ _ (by omega)]; exact h1
    · rw [up_ne _ _ (by omega)]; exact h1
  · rcases hj with ⟨rfl, rfl, rfl, rfl⟩ | ⟨rfl, rfl, rfl, rfl⟩ | ⟨rfl, rfl, rfl, rfl⟩
    · rw [up_ne _ _ (by omega)]; exact h2
    · rw [up_same]
    · rw [up_ne _ _ (by omega)]; exact h2
  · rcases hj with ⟨rfl, rfl, rfl, rfl⟩ | ⟨rfl, rfl, rfl, rfl⟩ | ⟨rfl, rfl, rfl, rfl⟩
    · rw [up_ne _ _ (by omega)]; exact h3
    · rw [up_ne _ _ (by omega)]; exact h3
    · rw [up_same]
/-- the cells that reading writes -/
abbrev SY (kr yd c : Nat) : Prop := c = kr ∨ (yd ≤ c ∧ c < yd + 4)
/-- between the steps of a line -/
def IY (M0 M : MM) (kr tx n : Nat) (β : Nat → Int32) (yd : Nat) (σ : RdS) (D : DR) : Prop := Fr (SY kr yd) M0 M ∧ CTx M kr tx n β ∧ CP M kr σ ∧ YDr M yd D
variable {M0 : MM}
theorem IY.fj (h : IY M0 M kr tx n β yd σ D) (hF : FJ kr JL M M') (hP : CP M' kr σ') (h1 : tx < kr) (h2 : kr < yd) : IY M0 M' kr tx n β yd σ' D := ⟨fun c hc => by rw [hF.1 c (fun z => hc (Or.inl z))]; exact h.1 c hc, h.2.1.fj hF (by decide) (by omega), hP, h.2.2.2.fj hF h2⟩
theorem JK_JL (h : FJ kr JK M M') : FJ kr JL M M' := h.mono (fun j z => by simp only [JL]; simp only [JK] at z; omega)
theorem IY.yy {D' : DR} (h : IY M0 M kr tx n β yd σ D) (hc : ∀ c, ¬ (yd ≤ c ∧ c < yd + 4) → M' c = M c) (hD : YDr M' yd D') (h1 : tx < kr) (h2 : kr < yd) : IY M0 M' kr tx n β yd σ D' := by
  obtain ⟨g1, g2, g3, g4⟩ := h
  refine ⟨fun c q => by rw [hc c (fun z => q (Or.inr z))]; exact g1 c q, ⟨g2.1, by rw [hc kr (by omega)]; exact g2.2.1, fun i hi => by rw [hc tx (by omega)]; exact g2.2.2 i hi⟩, ?_, hD⟩
  unfold CP
  rw [hc kr (by omega)]
  exact g3
/-- what the reading of a line's part owes -/
abbrev LC (M0 : MM) (kr tx n : Nat) (β : Nat → Int32) (yd : Nat) (x : RdS × DR) (M' : MM) : Prop := IY M0 M' kr tx n β yd x.1 x.2
theorem d_readEarth (hK : KRd Sh N kr tx) (hA : YA Sh N yd) (hlt : kr < yd) (hI : IY M0 M kr tx n β yd σ D) (hv : PV β n σ) (hb : σ.1 < 100) : Con E mX6_readEarth 5 0 0 [.ref kr, .ref yd] Sh N G M (PR Sh N (fun v M' => v = none ∧ LC M0 kr tx n β yd (rdE β n σ D) M')) nox := by
  obtain ⟨k0, k1, k2⟩ := id hK
  obtain ⟨a0, a1, a2, a3⟩ := id hA
  obtain ⟨v1, v2, v3⟩ := rE_rv hv
  have hv0 := adv_rv hv
  have c0 : (adv β n σ).1 < 100 := hb
  have c1 : (rE1 β n σ).2.1 < 100 := takeN_c 0 99 c0
  have c2 : (rE2 β n σ).2.1 < 100 := takeN_c 0 99 c1
  refine Con.ofQ (by decide +kernel) (by simp [Value.category]) (Nat.le_of_ble_eq_true rfl) (fun k C0 Q hQ => ?_)
  have C : CK k E mX6_readEarth kdX6_readEarth 5 0 0 := ⟨C0, kdX6_readEarth_ok⟩
  refine r_aload_n C 1 rfl rfl rfl rfl ?_
  refine r_geti C rfl f_X6_75 (by assumption) rfl ?_
  rw [hI.2.2.2.1]
  cases hD1 : D.1 with
  | true =>
    refine r_if_eq C 13 rfl (by decide) (fun z => absurd z (by decide)) (fun _ => ?_)
    refine r_aload_n C 0 rfl rfl rfl rfl ?_
    refine r_ic (v := nI 3) C rfl (by decide) ?_
    refine v1_g C rfl mfX6_refuse lk_X6_71 (by assumption) (d_refuse hK hI.2.2.1 3 rfl (by decide) hb) ?_
    rintro z M1 ⟨rfl, hF, hP1⟩
    refine q_vret C hQ rfl rfl ⟨rfl, rfl, rfl, ?_⟩
    have e : rdE β n σ D = (refu 3 σ, D) := by unfold rdE; rw [hD1, if_pos tt_t]
    rw [e]
    exact hI.fj (hF.mono (fun j z => by simp only [JL]; omega)) hP1 k2 hlt
  | false =>
    refine r_if_eq C 13 rfl (by decide) (fun _ => ?_) (fun z => absurd rfl z)
    refine r_aload_n C 1 rfl rfl rfl rfl ?_
    refine r_ic (v := nI 1) C rfl (by decide) ?_
    refine r_puti C rfl f_X6_75 (by assumption) rfl rfl rfl ?_
    have hI := hI.yy (M' := up M yd 3 (nI 1)) (fun c hc => up_row _ _ (by omega)) (hI.2.2.2.fld (b := true) (Or.inl ⟨rfl, rfl, rfl, rfl⟩)) k2 hlt
    obtain ⟨M1, hM1⟩ : ∃ M1, M1 = up M yd 3 (nI 1) := ⟨_, rfl⟩
    rw [← hM1] at hI ⊢
    refine r_aload_n C 0 rfl rfl rfl rfl ?_
    refine v0_g C rfl mfX6_advance lk_X6_42 (by assumption) (d_adv hK hI.2.1 hI.2.2.1 hv) ?_
    rintro z M2 ⟨rfl, hF2, hP2⟩
    have hI := hI.fj (JK_JL hF2) hP2 k2 hlt
    refine r_aload_n C 0 rfl rfl rfl rfl ?_
    refine r_ic (v := nI 0) C rfl (by decide) ?_
    refine r_bi (v := nI 99) C rfl (by decide) ?_
    refine v2_g C rfl mfX6_takeNumber lk_X6_79 (by assumption) (d_takeNumber hK hI.2.1 hI.2.2.1 hv0.1 c0 0 99 rfl rfl (by decide) (by decide)) ?_
    rintro z M3 ⟨rfl, hF3, hP3⟩
    have hI := hI.fj hF3 (σ' := (rE1 β n σ).2) hP3 k2 hlt
    refine r_istore_n C 2 rfl rfl (by exact Nat.le_of_ble_eq_true rfl) ?_
    refine r_aload_n C 0 rfl rfl rfl rfl ?_
    refine r_ic (v := nI 0) C rfl (by decide) ?_
    refine r_bi (v := nI 99) C rfl (by decide) ?_
    refine v2_g C rfl mfX6_takeNumber lk_X6_79 (by assumption) (d_takeNumber hK hI.2.1 hI.2.2.1 v1.1 c1 0 99 rfl rfl (by decide) (by decide)) ?_
    rintro z M4 ⟨rfl, hF4, hP4⟩
    have hI := hI.fj hF4 (σ' := (rE2 β n σ).2) hP4 k2 hlt
    refine r_istore_n C 3 rfl rfl (by exact Nat.le_of_ble_eq_true rfl) ?_
    refine r_aload_n C 0 rfl rfl rfl rfl ?_
    refine r_ic (v := nI 0) C rfl (by decide) ?_
    refine r_bi (v := nI 99) C rfl (by decide) ?_
    refine v2_g C rfl mfX6_takeNumber lk_X6_79 (by assumption) (d_takeNumber hK hI.2.1 hI.2.2.1 v2.1 c2 0 99 rfl rfl (by decide) (by decide)) ?_
    rintro z M5 ⟨rfl, hF5, hP5⟩
    have hI := hI.fj hF5 (σ' := (rE3 β n σ).2) hP5 k2 hlt
    refine r_istore C rfl (by exact Nat.le_of_ble_eq_true rfl) ?_
    refine r_aload_n C 1 rfl rfl rfl rfl ?_
    refine r_iload_n C 2 rfl rfl rfl ?_
    refine r_iload_n C 3 rfl rfl rfl ?_
    refine r_iload C rfl rfl ?_
    refine v3_v C rfl mfX10_setEarth lk_X6_82 (by assumption) (y_setEarth hA _ _ _) ?_
    refine q_vret C hQ rfl rfl ⟨rfl, rfl, rfl, ?_⟩
    have e : rdE β n σ D = ((rE3 β n σ).2, (true, ((rE1 β n σ).1, (rE2 β n σ).1, (rE3 β n σ).1), D.2.2)) := by unfold rdE; rw [hD1, if_neg ff_t]
    rw [e]
    exact hI.yy (fun c hc => earM_row (by omega) (by omega)) (hI.2.2.2.ear (rE1 β n σ).1 (rE2 β n σ).1 (rE3 β n σ).1) k2 hlt
theorem putN_6 (f g : Nat → Nat) (a : Nat) : putN f g a 6 = updN (updN (updN (updN (updN (updN f a (g 0)) (a + 1) (g 1)) (a + 2) (g 2)) (a + 3) (g 3)) (a + 4) (g 4)) (a + 5) (g 5) := by
  funext j
  unfold putN updN
  by_cases h5 : j = a + 5
  · rw [if_pos h5, if_pos (by omega), h5, show a + 5 - a = 5 by omega]
  rw [if_neg h5]
  by_cases h4 : j = a + 4
  · rw [if_pos h4, if_pos (by omega), h4, show a + 4 - a = 4 by omega]
  rw [if_neg h4]
  by_cases h3 : j = a + 3
  · rw [if_pos h3, if_pos (by omega), h3, show a + 3 - a = 3 by omega]
  rw [if_neg h3]
  by_cases h2 : j = a + 2
  · rw [if_pos h2, if_pos (by omega), h2, show a + 2 - a = 2 by omega]
  rw [if_neg h2]
  by_cases h1 : j = a + 1
  · rw [if_pos h1, if_pos (by omega), h1, show a + 1 - a = 1 by omega]
  rw [if_neg h1]
  by_cases h0 : j = a
  · rw [if_pos h0, if_pos (by omega), h0, show a - a = 0 by omega]
  · rw [if_neg h0, if_neg (by omega)]
theorem putN_3 (f g : Nat → Nat) (a : Nat) : putN f g a 3 = updN (updN (updN f a (g 0)) (a + 1) (g 1)) (a + 2) (g 2) := by
  funext j
  unfold putN updN
  by_cases h2 : j = a + 2
  · rw [if_pos h2, if_pos (by omega), h2, show a + 2 - a = 2 by omega]
  rw [if_neg h2]
  by_cases h1 : j = a + 1
  · rw [if_pos h1, if_pos (by omega), h1, show a + 1 - a = 1 by omega]
  rw [if_neg h1]
  by_cases h0 : j = a
  · rw [if_pos h0, if_pos (by omega), h0, show a - a = 0 by omega]
  · rw [if_neg h0, if_neg (by omega)]
theorem d_readWall (hK : KRd Sh N kr tx) (hA : YA Sh N yd) (hlt : kr < yd) (hI : IY M0 M kr tx n β yd σ D) (hv : PV β n σ) (hb : σ.1 < 100) (hD : DV D) : Con E mX6_readWall 8 0 0 [.ref kr, .ref yd] Sh N G M (PR Sh N (fun v M' => v = none ∧ LC M0 kr tx n β yd (rdW β n σ D) M')) nox := by
  obtain ⟨k0, k1, k2⟩ := id hK
  obtain ⟨a0, a1, a2, a3⟩ := id hA
  have hD4 := hD.2.1
  obtain ⟨v1, v2, v3, v4, v5, v6⟩ := rW_rv hv
  have hv0 := adv_rv hv
  have c0 : (adv β n σ).1 < 100 := hb
  have c1 : (rW1 β n σ).2.1 < 100 := takeN_c 1 6 c0
  have c2 : (rW2 β n σ).2.1 < 100 := takeO_c (wordB 3) 20 0 c1
  have c3 : (rW3 β n σ).2.1 < 100 := takeO_c (wordB 4) 9 0 c2
  have c4 : (rW4 β n σ).2.1 < 100 := takeW_c (wordB 5) c3
  have c5 : (rW5 β n σ).2.1 < 100 := takeO_c (wordB 6) 100 100 c4
  refine Con.ofQ (by decide +kernel) (by simp [Value.category]) (Nat.le_of_ble_eq_true rfl) (fun k C0 Q hQ => ?_)
  have C : CK k E mX6_readWall kdX6_readWall 8 0 0 := ⟨C0, kdX6_readWall_ok⟩
  refine r_aload_n C 1 rfl rfl rfl rfl ?_
  refine r_geti C rfl f_X6_86 (by assumption) rfl ?_
  refine r_ic (v := nI 4) C rfl (by decide) ?_
  rw [hI.2.2.2.2.1]
  refine r_icmp_lt C 14 rfl (by decide) (fun h4 => ?_) (fun h4 => ?_)
  rotate_left
  · have h4 : 4 ≤ D.2.2.1.1 := Nat.not_lt.mp (fun z => h4 ((nI_ltI (by omega) (by omega)).mpr z))
    refine r_aload_n C 0 rfl rfl rfl rfl ?_
    refine r_ic (v := nI 2) C rfl (by decide) ?_
    refine v1_g C rfl mfX6_refuse lk_X6_71 (by assumption) (d_refuse hK hI.2.2.1 2 rfl (by decide) hb) ?_
    rintro z M1 ⟨rfl, hF, hP1⟩
    refine q_vret C hQ rfl rfl ⟨rfl, rfl, rfl, ?_⟩
    have e : rdW β n σ D = (refu 2 σ, D) := by unfold rdW; rw [if_pos h4]
    rw [e]
    exact hI.fj (hF.mono (fun j z => by simp only [JL]; omega)) hP1 k2 hlt
  have h4 := lt_nI (by omega) (by omega) h4
  refine r_aload_n C 1 rfl rfl rfl rfl ?_
  refine r_geti C rfl f_X6_86 (by assumption) rfl ?_
  rw [hI.2.2.2.2.1]
  refine r_bi (v := nI 6) C rfl (by decide) ?_
  refine r_imul C rfl ?_
  rw [pk_mul, show D.2.2.1.1 * 6 = 6 * D.2.2.1.1 by omega]
  refine r_istore_n C 2 rfl rfl (by exact Nat.le_of_ble_eq_true rfl) ?_
  refine r_aload_n C 1 rfl rfl rfl rfl ?_
  refine r_dup C rfl rfl ?_
  refine r_geti C rfl f_X6_86 (by assumption) rfl ?_
  rw [hI.2.2.2.2.1]
  refine r_ic (v := nI 1) C rfl (by decide) ?_
  refine r_iadd C rfl ?_
  rw [nI_add]
  refine r_puti C rfl f_X6_86 (by assumption) rfl rfl rfl ?_
  have hI := hI.yy (M' := up M yd 4 (nI (D.2.2.1.1 + 1))) (fun c hc => up_row _ _ (by omega)) (hI.2.2.2.fld (nw := D.2.2.1.1 + 1) (Or.inr (Or.inl ⟨rfl, rfl, rfl, rfl⟩))) k2 hlt
  obtain ⟨M1, hM1⟩ : ∃ M1, M1 = up M yd 4 (nI (D.2.2.1.1 + 1)) := ⟨_, rfl⟩
  rw [← hM1] at hI ⊢
  refine r_aload_n C 0 rfl rfl rfl rfl ?_
  refine v0_g C rfl mfX6_advance lk_X6_42 (by assumption) (d_adv hK hI.2.1 hI.2.2.1 hv) ?_
  rintro z M2 ⟨rfl, hF2, hP2⟩
  have hI := hI.fj (JK_JL hF2) hP2 k2 hlt
  refine r_aload_n C 1 rfl rfl rfl rfl ?_
  refine r_getv C rfl f_X6_89 (by assumption) rfl ?_
  refine r_iload_n C 2 rfl rfl rfl ?_
  refine r_aload_n C 0 rfl rfl rfl rfl ?_
  refine r_ic (v := nI 1) C rfl (by decide) ?_
  refine r_bi (v := nI 6) C rfl (by decide) ?_
  refine v2_g C rfl mfX6_takeNumber lk_X6_79 (by assumption) (d_takeNumber hK hI.2.1 hI.2.2.1 hv0.1 c0 1 6 rfl rfl (by decide) (by decide)) ?_
  rintro z M3 ⟨rfl, hF3, hP3⟩
  have hI := hI.fj hF3 (σ' := (rW1 β n σ).2) hP3 k2 hlt
  refine r_iast C rfl (by assumption) (6 * D.2.2.1.1) rfl (by omega) (by decide) ?_
  have hI := hI.yy (M' := up M3 (yd + 2) (6 * D.2.2.1.1) (nI (takeN β n 1 6 (adv β n σ)).1)) (fun c hc => up_row _ _ (by omega)) (hI.2.2.2.trt _) k2 hlt
  refine r_aload_n C 1 rfl rfl rfl rfl ?_
  refine r_getv C rfl f_X6_89 (by assumption) rfl ?_
  refine r_iload_n C 2 rfl rfl rfl ?_
  refine r_ic (v := nI 1) C rfl (by decide) ?_
  refine r_iadd C rfl ?_
  rw [nI_add]
  refine r_aload_n C 0 rfl rfl rfl rfl ?_
  refine r_ldcs (text := "ground") (n := 3) C rfl (by decide +kernel) ?_
  refine r_bi (v := nI 20) C rfl (by decide) ?_
  refine r_ic (v := nI 0) C rfl (by decide) ?_
  refine v3_g C rfl mfX6_takeOption lk_X6_95 (by assumption) (d_takeOption hK hI.2.1 hI.2.2.1 v1.1 c1 (i := 3) (by decide) 20 0 rfl rfl (by decide)) ?_
  rintro z M4 ⟨rfl, hF4, hP4⟩
  have hI := hI.fj hF4 (σ' := (rW2 β n σ).2) hP4 k2 hlt
  refine r_iast C rfl (by assumption) (6 * D.2.2.1.1 + 1) rfl (by omega) (by decide) ?_
  have hI := hI.yy (M' := up M4 (yd + 2) (6 * D.2.2.1.1 + 1) (nI (takeO (wordB 3) β n 20 0 (rW1 β n σ).2).1)) (fun c hc => up_row _ _ (by omega)) (hI.2.2.2.trt _) k2 hlt
  refine r_aload_n C 1 rfl rfl rfl rfl ?_
  refine r_getv C rfl f_X6_89 (by assumption) rfl ?_
  refine r_iload_n C 2 rfl rfl rfl ?_
  refine r_ic (v := nI 2) C rfl (by decide) ?_
  refine r_iadd C rfl ?_
  rw [nI_add]
  refine r_aload_n C 0 rfl rfl rfl rfl ?_
  refine r_ldcs (text := "shoes") (n := 4) C rfl (by decide +kernel) ?_
  refine r_bi (v := nI 9) C rfl (by decide) ?_
  refine r_ic (v := nI 0) C rfl (by decide) ?_
  refine v3_g C rfl mfX6_takeOption lk_X6_95 (by assumption) (d_takeOption hK hI.2.1 hI.2.2.1 v2.1 c2 (i := 4) (by decide) 9 0 rfl rfl (by decide)) ?_
  rintro z M5 ⟨rfl, hF5, hP5⟩
  have hI := hI.fj hF5 (σ' := (rW3 β n σ).2) hP5 k2 hlt
  refine r_iast C rfl (by assumption) (6 * D.2.2.1.1 + 2) rfl (by omega) (by decide) ?_
  have hI := hI.yy (M' := up M5 (yd + 2) (6 * D.2.2.1.1 + 2) (nI (takeO (wordB 4) β n 9 0 (rW2 β n σ).2).1)) (fun c hc => up_row _ _ (by omega)) (hI.2.2.2.trt _) k2 hlt
  refine r_aload_n C 1 rfl rfl rfl rfl ?_
  refine r_getv C rfl f_X6_89 (by assumption) rfl ?_
  refine r_iload_n C 2 rfl rfl rfl ?_
  refine r_ic (v := nI 3) C rfl (by decide) ?_
  refine r_iadd C rfl ?_
  rw [nI_add]
  refine r_aload_n C 0 rfl rfl rfl rfl ?_
  refine r_ldcs (text := "hat") (n := 5) C rfl (by decide +kernel) ?_
  refine v1_g C rfl mfX6_takeWord lk_X6_103 (by assumption) (d_takeWord hK hI.2.1 hI.2.2.1 v3.1 c3 (i := 5) (by decide)) ?_
  rintro z M6 ⟨rfl, hF6, hP6⟩
  have hI := hI.fj (JK_JL hF6) (σ' := (rW4 β n σ).2) hP6 k2 hlt
  have rest : ∀ z : Int32, z = nI (bN (rW4 β n σ).1) → PT k E Q 0 0 Sh N G M6 104 [some (.ref kr), some (.ref yd), some (.int (nI (6 * D.2.2.1.1)))] [.int z, .int (nI (6 * D.2.2.1.1 + 3)), .ref (yd + 2)] := by
    intro z hz
    subst hz
    refine r_iast C rfl (by assumption) (6 * D.2.2.1.1 + 3) rfl (by omega) (by decide) ?_
    have hI := hI.yy (M' := up M6 (yd + 2) (6 * D.2.2.1.1 + 3) (nI (bN (rW4 β n σ).1))) (fun c hc => up_row _ _ (by omega)) (hI.2.2.2.trt _) k2 hlt
    refine r_aload_n C 1 rfl rfl rfl rfl ?_
    refine r_getv C rfl f_X6_89 (by assumption) rfl ?_
    refine r_iload_n C 2 rfl rfl rfl ?_
    refine r_ic (v := nI 4) C rfl (by decide) ?_
    refine r_iadd C rfl ?_
    rw [nI_add]
    refine r_aload_n C 0 rfl rfl rfl rfl ?_
    refine r_ldcs (text := "outer") (n := 6) C rfl (by decide +kernel) ?_
    refine r_bi (v := nI 100) C rfl (by decide) ?_
    refine r_bi (v := nI 100) C rfl (by decide) ?_
    refine v3_g C rfl mfX6_takeOption lk_X6_95 (by assumption) (d_takeOption hK hI.2.1 hI.2.2.1 v4.1 c4 (i := 6) (by decide) 100 100 rfl rfl (by decide)) ?_
    rintro z M7 ⟨rfl, hF7, hP7⟩
    have hI := hI.fj hF7 (σ' := (rW5 β n σ).2) hP7 k2 hlt
    refine r_iast C rfl (by assumption) (6 * D.2.2.1.1 + 4) rfl (by omega) (by decide) ?_
    have hI := hI.yy (M' := up M7 (yd + 2) (6 * D.2.2.1.1 + 4) (nI (takeO (wordB 6) β n 100 100 (rW4 β n σ).2).1)) (fun c hc => up_row _ _ (by omega)) (hI.2.2.2.trt _) k2 hlt
    refine r_aload_n C 1 rfl rfl rfl rfl ?_
    refine r_getv C rfl f_X6_89 (by assumption) rfl ?_
    refine r_iload_n C 2 rfl rfl rfl ?_
    refine r_ic (v := nI 5) C rfl (by decide) ?_
    refine r_iadd C rfl ?_
    rw [nI_add]
    refine r_aload_n C 0 rfl rfl rfl rfl ?_
    refine r_ldcs (text := "inner") (n := 7) C rfl (by decide +kernel) ?_
    refine r_bi (v := nI 100) C rfl (by decide) ?_
    refine r_bi (v := nI 100) C rfl (by decide) ?_
    refine v3_g C rfl mfX6_takeOption lk_X6_95 (by assumption) (d_takeOption hK hI.2.1 hI.2.2.1 v5.1 c5 (i := 7) (by decide) 100 100 rfl rfl (by decide)) ?_
    rintro z M8 ⟨rfl, hF8, hP8⟩
    have hI := hI.fj hF8 (σ' := (rW6 β n σ).2) hP8 k2 hlt
    refine r_iast C rfl (by assumption) (6 * D.2.2.1.1 + 5) rfl (by omega) (by decide) ?_
    have hI := hI.yy (M' := up M8 (yd + 2) (6 * D.2.2.1.1 + 5) (nI (takeO (wordB 7) β n 100 100 (rW5 β n σ).2).1)) (fun c hc => up_row _ _ (by omega)) (hI.2.2.2.trt _) k2 hlt
    refine q_vret C hQ rfl rfl ⟨rfl, rfl, rfl, ?_⟩
    have e : rdW β n σ D = ((rW6 β n σ).2, (D.1, D.2.1, (D.2.2.1.1 + 1, putN D.2.2.1.2 (rWt β n σ) (6 * D.2.2.1.1) 6), D.2.2.2)) := by unfold rdW; rw [if_neg (by omega)]
    rw [e, putN_6]
    exact hI
  refine r_if_eq C 103 rfl (by decide) (fun h => ?_) (fun h => ?_)
  · refine r_ic (v := nI 0) C rfl (by decide) ?_
    exact rest _ (by rw [show (rW4 β n σ).1 = false from bI_0 h]; rfl)
  · refine r_ic (v := nI 1) C rfl (by decide) ?_
    refine r_goto C 104 rfl (by decide) ?_
    exact rest _ (by rw [show (rW4 β n σ).1 = true from bI_1 h]; rfl)
theorem d_readWeek (hK : KRd Sh N kr tx) (hA : YA Sh N yd) (hlt : kr < yd) (hI : IY M0 M kr tx n β yd σ D) (hv : PV β n σ) (hb : σ.1 < 100) (hD : DV D) : Con E mX6_readWeek 8 0 0 [.ref kr, .ref yd] Sh N G M (PR Sh N (fun v M' => v = none ∧ LC M0 kr tx n β yd (rdK β n σ D) M')) nox := by
  obtain ⟨k0, k1, k2⟩ := id hK
  obtain ⟨a0, a1, a2, a3⟩ := id hA
  have hD4 := hD.2.2.1
  obtain ⟨v1, v2, v3⟩ := rK_rv hv
  have hv0 := adv_rv hv
  have c0 : (adv β n σ).1 < 100 := hb
  have c1 : (rK1 β n σ).2.1 < 100 := takeN_c 0 99 c0
  have c2 : (rK2 β n σ).2.1 < 100 := takeN_c 0 99 c1
  refine Con.ofQ (by decide +kernel) (by simp [Value.category]) (Nat.le_of_ble_eq_true rfl) (fun k C0 Q hQ => ?_)
  have C : CK k E mX6_readWeek kdX6_readWeek 8 0 0 := ⟨C0, kdX6_readWeek_ok⟩
  refine r_aload_n C 1 rfl rfl rfl rfl ?_
  refine r_geti C rfl f_X6_110 (by assumption) rfl ?_
  refine r_bi (v := nI 30) C rfl (by decide) ?_
  rw [hI.2.2.2.2.2.1]
  refine r_icmp_lt C 15 rfl (by decide) (fun h4 => ?_) (fun h4 => ?_)
  rotate_left
  · have h4 : 30 ≤ D.2.2.2.1 := Nat.not_lt.mp (fun z => h4 ((nI_ltI (by omega) (by omega)).mpr z))
    refine r_aload_n C 0 rfl rfl rfl rfl ?_
    refine r_ic (v := nI 2) C rfl (by decide) ?_
    refine v1_g C rfl mfX6_refuse lk_X6_71 (by assumption) (d_refuse hK hI.2.2.1 2 rfl (by decide) hb) ?_
    rintro z M1 ⟨rfl, hF, hP1⟩
    refine q_vret C hQ rfl rfl ⟨rfl, rfl, rfl, ?_⟩
    have e : rdK β n σ D = (refu 2 σ, D) := by unfold rdK; rw [if_pos h4]
    rw [e]
    exact hI.fj (hF.mono (fun j z => by simp only [JL]; omega)) hP1 k2 hlt
  have h4 := lt_nI (by omega) (by omega) h4
  refine r_aload_n C 1 rfl rfl rfl rfl ?_
  refine r_geti C rfl f_X6_110 (by assumption) rfl ?_
  rw [hI.2.2.2.2.2.1]
  refine r_ic (v := nI 3) C rfl (by decide) ?_
  refine r_imul C rfl ?_
  rw [pk_mul, show D.2.2.2.1 * 3 = 3 * D.2.2.2.1 by omega]
  refine r_istore_n C 2 rfl rfl (by exact Nat.le_of_ble_eq_true rfl) ?_
  refine r_aload_n C 1 rfl rfl rfl rfl ?_
  refine r_dup C rfl rfl ?_
  refine r_geti C rfl f_X6_110 (by assumption) rfl ?_
  rw [hI.2.2.2.2.2.1]
  refine r_ic (v := nI 1) C rfl (by decide) ?_
  refine r_iadd C rfl ?_
  rw [nI_add]
  refine r_puti C rfl f_X6_110 (by assumption) rfl rfl rfl ?_
  have hI := hI.yy (M' := up M yd 5 (nI (D.2.2.2.1 + 1))) (fun c hc => up_row _ _ (by omega)) (hI.2.2.2.fld (nk := D.2.2.2.1 + 1) (Or.inr (Or.inr ⟨rfl, rfl, rfl, rfl⟩))) k2 hlt
  obtain ⟨M1, hM1⟩ : ∃ M1, M1 = up M yd 5 (nI (D.2.2.2.1 + 1)) := ⟨_, rfl⟩
  rw [← hM1] at hI ⊢
  refine r_aload_n C 0 rfl rfl rfl rfl ?_
  refine v0_g C rfl mfX6_advance lk_X6_42 (by assumption) (d_adv hK hI.2.1 hI.2.2.1 hv) ?_
  rintro z M2 ⟨rfl, hF2, hP2⟩
  have hI := hI.fj (JK_JL hF2) hP2 k2 hlt
  refine r_aload_n C 1 rfl rfl rfl rfl ?_
  refine r_getv C rfl f_X6_113 (by assumption) rfl ?_
  refine r_iload_n C 2 rfl rfl rfl ?_
  refine r_aload_n C 0 rfl rfl rfl rfl ?_
  refine r_ic (v := nI 0) C rfl (by decide) ?_
  refine r_bi (v := nI 99) C rfl (by decide) ?_
  refine v2_g C rfl mfX6_takeNumber lk_X6_79 (by assumption) (d_takeNumber hK hI.2.1 hI.2.2.1 hv0.1 c0 0 99 rfl rfl (by decide) (by decide)) ?_
  rintro z M3 ⟨rfl, hF3, hP3⟩
  have hI := hI.fj hF3 (σ' := (rK1 β n σ).2) hP3 k2 hlt
  refine r_iast C rfl (by assumption) (3 * D.2.2.2.1) rfl (by omega) (by decide) ?_
  have hI := hI.yy (M' := up M3 (yd + 3) (3 * D.2.2.2.1) (nI (takeN β n 0 99 (adv β n σ)).1)) (fun c hc => up_row _ _ (by omega)) (hI.2.2.2.wkt _) k2 hlt
  refine r_aload_n C 1 rfl rfl rfl rfl ?_
  refine r_getv C rfl f_X6_113 (by assumption) rfl ?_
  refine r_iload_n C 2 rfl rfl rfl ?_
  refine r_ic (v := nI 1) C rfl (by decide) ?_
  refine r_iadd C rfl ?_
  rw [nI_add]
  refine r_aload_n C 0 rfl rfl rfl rfl ?_
  refine r_ic (v := nI 0) C rfl (by decide) ?_
  refine r_bi (v := nI 99) C rfl (by decide) ?_
  refine v2_g C rfl mfX6_takeNumber lk_X6_79 (by assumption) (d_takeNumber hK hI.2.1 hI.2.2.1 v1.1 c1 0 99 rfl rfl (by decide) (by decide)) ?_
  rintro z M4 ⟨rfl, hF4, hP4⟩
  have hI := hI.fj hF4 (σ' := (rK2 β n σ).2) hP4 k2 hlt
  refine r_iast C rfl (by assumption) (3 * D.2.2.2.1 + 1) rfl (by omega) (by decide) ?_
  have hI := hI.yy (M' := up M4 (yd + 3) (3 * D.2.2.2.1 + 1) (nI (takeN β n 0 99 (rK1 β n σ).2).1)) (fun c hc => up_row _ _ (by omega)) (hI.2.2.2.wkt _) k2 hlt
  refine r_aload_n C 1 rfl rfl rfl rfl ?_
  refine r_getv C rfl f_X6_113 (by assumption) rfl ?_
  refine r_iload_n C 2 rfl rfl rfl ?_
  refine r_ic (v := nI 2) C rfl (by decide) ?_
  refine r_iadd C rfl ?_
  rw [nI_add]
  refine r_aload_n C 0 rfl rfl rfl rfl ?_
  refine r_ldcs (text := "frost") (n := 8) C rfl (by decide +kernel) ?_
  refine v1_g C rfl mfX6_takeWord lk_X6_103 (by assumption) (d_takeWord hK hI.2.1 hI.2.2.1 v2.1 c2 (i := 8) (by decide)) ?_
  rintro z M6 ⟨rfl, hF6, hP6⟩
  have hI := hI.fj (JK_JL hF6) (σ' := (rK3 β n σ).2) hP6 k2 hlt
  have rest : ∀ z : Int32, z = nI (bN (rK3 β n σ).1) → PT k E Q 0 0 Sh N G M6 85 [some (.ref kr), some (.ref yd), some (.int (nI (3 * D.2.2.2.1)))] [.int z, .int (nI (3 * D.2.2.2.1 + 2)), .ref (yd + 3)] := by
    intro z hz
    subst hz
    refine r_iast C rfl (by assumption) (3 * D.2.2.2.1 + 2) rfl (by omega) (by decide) ?_
    have hI := hI.yy (M' := up M6 (yd + 3) (3 * D.2.2.2.1 + 2) (nI (bN (rK3 β n σ).1))) (fun c hc => up_row _ _ (by omega)) (hI.2.2.2.wkt _) k2 hlt
    refine q_vret C hQ rfl rfl ⟨rfl, rfl, rfl, ?_⟩
    have e : rdK β n σ D = ((rK3 β n σ).2, (D.1, D.2.1, D.2.2.1, (D.2.2.2.1 + 1, putN D.2.2.2.2 (rKt β n σ) (3 * D.2.2.2.1) 3))) := by unfold rdK; rw [if_neg (by omega)]
    rw [e, putN_3]
    exact hI
  refine r_if_eq C 84 rfl (by decide) (fun h => ?_) (fun h => ?_)
  · refine r_ic (v := nI 0) C rfl (by decide) ?_
    exact rest _ (by rw [show (rK3 β n σ).1 = false from bI_0 h]; rfl)
  · refine r_ic (v := nI 1) C rfl (by decide) ?_
    refine r_goto C 85 rfl (by decide) ?_
    exact rest _ (by rw [show (rK3 β n σ).1 = true from bI_1 h]; rfl)
theorem d_readLine (hK : KRd Sh N kr tx) (hA : YA Sh N yd) (hlt : kr < yd) (hI : IY M0 M kr tx n β yd σ D) (hv : PV β n σ) (hb : σ.1 < 100) (hD : DV D) : Con E mX6_readLine 9 0 0 [.ref kr, .ref yd] Sh N G M (PR Sh N (fun v M' => v = none ∧ LC M0 kr tx n β yd (lineF β n (σ, D)) M')) nox := by
  obtain ⟨k0, k1, k2⟩ := id hK
  refine Con.ofQ (by decide +kernel) (by simp [Value.category]) (Nat.le_of_ble_eq_true rfl) (fun k C0 Q hQ => ?_)
  have C : CK k E mX6_readLine kdX6_readLine 9 0 0 := ⟨C0, kdX6_readLine_ok⟩
  have fin : ∀ M1 : MM, IY M0 M1 kr tx n β yd (lineH β n (σ, D)).1 (lineH β n (σ, D)).2 → PT k E Q 0 0 Sh N G M1 56 [some (.ref kr), some (.ref yd)] [] := by
    intro M1 hI1
    have hvH := lineH_rv (β := β) (n := n) (x := (σ, D)) hv
    have hcH := lineH_c (β := β) (n := n) (y := (σ, D)) hb
    have hkH := hvH.1.k
    have no : ¬ ((lineH β n (σ, D)).1.1 = 0 ∧ (lineH β n (σ, D)).1.2.2.1 = 3) → PT k E Q 0 0 Sh N G M1 78 [some (.ref kr), some (.ref yd)] [] := by
      intro h
      refine r_aload_n C 0 rfl rfl rfl rfl ?_
      refine r_ic (v := nI 1) C rfl (by decide) ?_
      refine v1_g C rfl mfX6_refuse lk_X6_71 (by assumption) (d_refuse hK hI1.2.2.1 1 rfl (by decide) hcH) ?_
      rintro z M2 ⟨rfl, hF, hP2⟩
      refine q_vret C hQ rfl rfl ⟨rfl, rfl, rfl, ?_⟩
      have e : lineF β n (σ, D) = (refu 1 (lineH β n (σ, D)).1, (lineH β n (σ, D)).2) := by unfold lineF lineT; rw [if_neg h]
      rw [e]
      exact hI1.fj (hF.mono (fun j z => by simp only [JL]; omega)) hP2 k2 hlt
    refine r_aload_n C 0 rfl rfl rfl rfl ?_
    refine r_geti C rfl f_X6_34 (by assumption) rfl ?_
    rw [hI1.2.2.1.2.2.2.1]
    refine r_if_ne C 78 rfl (by decide) (fun h => no (fun z => h (by rw [z.1]; rfl))) (fun h => ?_)
    have h : (lineH β n (σ, D)).1.1 = 0 := (nI_eq (b := 0) (by omega) (by omega)).mp h
    refine r_aload_n C 0 rfl rfl rfl rfl ?_
    refine r_geti C rfl f_X6_45 (by assumption) rfl ?_
    refine r_ic (v := nI 3) C rfl (by decide) ?_
    rw [hI1.2.2.1.1]
    refine r_icmp_ne C 78 rfl (by decide) (fun h2 => no (fun z => h2 (by rw [z.2]))) (fun h2 => ?_)
    have h2 : (lineH β n (σ, D)).1.2.2.1 = 3 := (nI_eq (b := 3) (by omega) (by omega)).mp h2
    refine r_aload_n C 0 rfl rfl rfl rfl ?_
    refine v0_g C rfl mfX6_advance lk_X6_42 (by assumption) (d_adv hK hI1.2.1 hI1.2.2.1 hvH.1) ?_
    rintro z M2 ⟨rfl, hF, hP2⟩
    refine r_goto C 83 rfl (by decide) ?_
    refine q_vret C hQ rfl rfl ⟨rfl, rfl, rfl, ?_⟩
    have e : lineF β n (σ, D) = (adv β n (lineH β n (σ, D)).1, (lineH β n (σ, D)).2) := by unfold lineF lineT; rw [if_pos ⟨h, h2⟩]
    rw [e]
    exact hI1.fj (JK_JL hF) hP2 k2 hlt
  refine r_aload_n C 0 rfl rfl rfl rfl ?_
  refine r_ldcs (text := "earth") (n := 0) C rfl (by decide +kernel) ?_
  refine v1_r C rfl mfX6_atWord lk_X6_54 (by assumption) (d_atWord hK hI.2.1 hI.2.2.1 hv (i := 0) (by decide)) ?_
  refine r_if_eq C 17 rfl (by decide) (fun h0 => ?_) (fun h0 => ?_)
  rotate_left
  · have h0 := bI_1 h0
    refine r_aload_n C 0 rfl rfl rfl rfl ?_
    refine r_aload_n C 1 rfl rfl rfl rfl ?_
    refine v1_g C rfl mfX6_readEarth lk_X6_58 (by assumption) (d_readEarth hK hA hlt hI hv hb) ?_
    rintro z M1 ⟨rfl, hI1⟩
    refine r_goto C 56 rfl (by decide) ?_
    refine fin M1 ?_
    have e : lineH β n (σ, D) = rdE β n σ D := by unfold lineH; rw [if_pos h0]
    rw [e]
    exact hI1
  have h0 := bI_0 h0
  refine r_aload_n C 0 rfl rfl rfl rfl ?_
  refine r_ldcs (text := "wall") (n := 1) C rfl (by decide +kernel) ?_
  refine v1_r C rfl mfX6_atWord lk_X6_54 (by assumption) (d_atWord hK hI.2.1 hI.2.2.1 hv (i := 1) (by decide)) ?_
  refine r_if_eq C 34 rfl (by decide) (fun h1 => ?_) (fun h1 => ?_)
  rotate_left
  · have h1 := bI_1 h1
    refine r_aload_n C 0 rfl rfl rfl rfl ?_
    refine r_aload_n C 1 rfl rfl rfl rfl ?_
    refine v1_g C rfl mfX6_readWall lk_X6_63 (by assumption) (d_readWall hK hA hlt hI hv hb hD) ?_
    rintro z M1 ⟨rfl, hI1⟩
    refine r_goto C 56 rfl (by decide) ?_
    refine fin M1 ?_
    have e : lineH β n (σ, D) = rdW β n σ D := by unfold lineH; rw [if_neg (by rw [h0]; decide), if_pos h1]
    rw [e]
    exact hI1
  have h1 := bI_0 h1
  refine r_aload_n C 0 rfl rfl rfl rfl ?_
  refine r_ldcs (text := "week") (n := 2) C rfl (by decide +kernel) ?_
  refine v1_r C rfl mfX6_atWord lk_X6_54 (by assumption) (d_atWord hK hI.2.1 hI.2.2.1 hv (i := 2) (by decide)) ?_
  refine r_if_eq C 51 rfl (by decide) (fun h2 => ?_) (fun h2 => ?_)
  rotate_left
  · have h2 := bI_1 h2
    refine r_aload_n C 0 rfl rfl rfl rfl ?_
    refine r_aload_n C 1 rfl rfl rfl rfl ?_
    refine v1_g C rfl mfX6_readWeek lk_X6_68 (by assumption) (d_readWeek hK hA hlt hI hv hb hD) ?_
    rintro z M1 ⟨rfl, hI1⟩
    refine r_goto C 56 rfl (by decide) ?_
    refine fin M1 ?_
    have e : lineH β n (σ, D) = rdK β n σ D := by unfold lineH; rw [if_neg (by rw [h0]; decide), if_neg (by rw [h1]; decide), if_pos h2]
    rw [e]
    exact hI1
  have h2 := bI_0 h2
  refine r_aload_n C 0 rfl rfl rfl rfl ?_
  refine r_ic (v := nI 1) C rfl (by decide) ?_
  refine v1_g C rfl mfX6_refuse lk_X6_71 (by assumption) (d_refuse hK hI.2.2.1 1 rfl (by decide) hb) ?_
  rintro z M1 ⟨rfl, hF, hP1⟩
  refine fin M1 ?_
  have e : lineH β n (σ, D) = (refu 1 σ, D) := by unfold lineH; rw [if_neg (by rw [h0]; decide), if_neg (by rw [h1]; decide), if_neg (by rw [h2]; decide)]
  rw [e]
  exact hI.fj (hF.mono (fun j z => by simp only [JL]; omega)) hP1 k2 hlt
end CREAD2
