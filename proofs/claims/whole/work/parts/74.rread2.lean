section RREAD2
variable {E : VE} {Sh : Nat → SE} {N : Nat} {G : Bool} {M M' M'' : MM} {o n b : Nat} {β : Nat → Int32} {σ : RdS}
theorem RP.fj {J : Nat → Prop} (h : RP M o β σ) (hF : FJ o J M M') (hj : ∀ j, 14 ≤ j → j ≤ 21 → ¬ J j) : RP M' o β σ := by
  obtain ⟨h1, h2, h3, h4, h5, h6, h7⟩ := h
  exact ⟨(hF.2 14 (hj _ (by decide) (by decide))).trans h1, (hF.2 16 (hj _ (by decide) (by decide))).trans h2, (hF.2 18 (hj _ (by decide) (by decide))).trans h3, (hF.2 19 (hj _ (by decide) (by decide))).trans h4, (hF.2 20 (hj _ (by decide) (by decide))).trans h5, fun q => (hF.2 21 (hj _ (by decide) (by decide))).trans (h6 q), fun q q2 => (hF.2 17 (hj _ (by decide) (by decide))).trans (h7 q q2)⟩
theorem m_adv (hM : MO Sh N o) (hT : RTx M o n β) (hP : RP M o β σ) (hv : PV β n σ) : Con E mX12_stepOn 2 0 0 [.ref o] Sh N G M (PR Sh N (fun v M' => v = none ∧ FJ o JT M M' ∧ RP M' o β (adv β n σ))) nox := m_stepOn hM hT hP.1 hv.e.2 hP.2.2.2.2.1 hP.2.2.2.2.2.1
theorem m_wrong (hM : MO Sh N o) (hP : RP M o β σ) (hv : PV β n σ) (hn : n ≤ 700) {x : Int32} (q : Nat) (hx : x = nI q) (hq : q < 100) (hb : σ.1 < 100) : Con E mX12_wrong 1 0 0 [.ref o, .int x] Sh N G M (PR Sh N (fun v M' => v = none ∧ FJ o (fun j => j = 20 ∨ j = 21) M M' ∧ RP M' o β (refu q σ))) nox := by
  subst hx
  have h0 := hM.1
  obtain ⟨h1, h2, h3, h4, h5, h6, h7⟩ := id hP
  refine Con.ofQ (by decide +kernel) (by simp [Value.category]) (Nat.le_of_ble_eq_true rfl) (fun k C0 Q hQ => ?_)
  have C : CK k E mX12_wrong kdX12_wrong 1 0 0 := ⟨C0, kdX12_wrong_ok⟩
  refine r_aload_n C 0 rfl rfl rfl rfl ?_
  refine r_geti C rfl f_X12_139 (by assumption) rfl ?_
  rw [h5]
  refine r_if_eq C 8 rfl (by decide) (fun h => ?_) (fun h => ?_)
  · have h : σ.1 = 0 := (nI_eq (b := 0) (by omega) (by omega)).mp h
    refine r_aload_n C 0 rfl rfl rfl rfl ?_
    refine r_iload_n C 1 rfl rfl rfl ?_
    refine r_puti C rfl f_X12_139 (by assumption) rfl rfl rfl ?_
    refine r_aload_n C 0 rfl rfl rfl rfl ?_
    refine r_aload_n C 0 rfl rfl rfl rfl ?_
    refine r_geti C rfl f_X12_113 (by assumption) rfl ?_
    rw [up_ne _ _ (by omega), h3]
    refine r_puti C rfl f_X12_142 (by assumption) rfl rfl rfl ?_
    have e : refu q σ = (q, σ.2.2.2.1, σ.2.2) := by unfold refu; rw [if_pos h]
    refine q_vret C hQ rfl rfl ⟨rfl, rfl, rfl, (FJ.rfl.up (Or.inl rfl) _).up (Or.inr rfl) _, ?_⟩
    rw [e]
    refine ⟨?_, ?_, ?_, ?_, ?_, ?_, ?_⟩
    · rw [up_ne _ _ (by omega), up_ne _ _ (by omega)]; exact h1
    · rw [up_ne _ _ (by omega), up_ne _ _ (by omega)]; exact h2
    · rw [up_ne _ _ (by omega), up_ne _ _ (by omega)]; exact h3
    · rw [up_ne _ _ (by omega), up_ne _ _ (by omega)]; exact h4
    · rw [up_ne _ _ (by omega), up_same]
    · intro _; rw [up_same]
    · intro z1 z2; rw [up_ne _ _ (by omega), up_ne _ _ (by omega)]; exact h7 z1 z2
  · have h : σ.1 ≠ 0 := fun z => h (by rw [z]; rfl)
    have e : refu q σ = σ := by unfold refu; rw [if_neg h]
    exact q_vret C hQ rfl rfl ⟨rfl, rfl, rfl, FJ.rfl, by rw [e]; exact hP⟩
theorem allB_mono {p : Nat → Bool} {i : Nat} (h : allB p i = false) : ∀ m, allB p (i + m) = false
  | 0 => h
  | m + 1 => by rw [show i + (m + 1) = (i + m) + 1 by omega, allB, allB_mono h m]; rfl
/-- is the token this word? -/
theorem m_is (hM : MO Sh N o) (hT : RTx M o n β) (hP : RP M o β σ) (hv : PV β n σ) (hb : σ.1 < 100) {i : Nat} (hi : i < 18) : Con E mX12_is 5 0 0 [.ref o, .retAddr i] Sh N G M (P1 (some (.int (bI (decide (σ.1 = 0) && wd (wordB i) β σ)))) Sh N M) nox := by
  have h0 := hM.1
  have h10 : At Sh N (o + 10) (arE 0 700) := hM.ar 9 rfl
  have hn := hT.1
  have hk := hv.k
  have he := hv.e
  have hw7 := wordB_s i hi
  obtain ⟨h1, h2, h3, h4, h5, h6, h7⟩ := id hP
  refine Con.ofQ (by decide +kernel) (by simp [Value.category]) (Nat.le_of_ble_eq_true rfl) (fun k C0 Q hQ => ?_)
  have C : CK k E mX12_is kdX12_is 5 0 0 := ⟨C0, kdX12_is_ok⟩
  have no : (decide (σ.1 = 0) && wd (wordB i) β σ) = false → ∀ v3 : Option Value, PT k E Q 0 0 Sh N G M 82 [some (.ref o), some (.retAddr i), some (.int (nI 0)), v3] [] := by
    intro h v3
    refine r_iload_n C 2 rfl rfl rfl ?_
    exact q_iret C hQ rfl rfl rfl ⟨by rw [h]; rfl, rfl, rfl, rfl⟩
  have no1 : (decide (σ.1 = 0) && wd (wordB i) β σ) = false → PT k E Q 0 0 Sh N G M 35 [some (.ref o), some (.retAddr i), none, none] [] := by
    intro h
    refine r_ic (v := nI 0) C rfl (by decide) ?_
    refine r_istore_n C 2 rfl rfl (by exact Nat.le_of_ble_eq_true rfl) ?_
    refine r_ic (v := nI 0) C rfl (by decide) ?_
    refine r_istore_n C 3 rfl rfl (by exact Nat.le_of_ble_eq_true rfl) ?_
    refine r_iload_n C 2 rfl rfl rfl ?_
    refine r_if_eq C 82 rfl (by decide) (fun _ => no h _) (fun z => absurd rfl z)
  refine r_aload_n C 0 rfl rfl rfl rfl ?_
  refine r_geti C rfl f_X12_139 (by assumption) rfl ?_
  rw [h5]
  refine r_if_ne C 35 rfl (by decide) (fun h => no1 ?_) (fun hb0 => ?_)
  · rw [decide_eq_false (fun z => h (by rw [z]; rfl))]; rfl
  have hb0 : σ.1 = 0 := (nI_eq (b := 0) (by omega) (by omega)).mp hb0
  refine r_aload_n C 0 rfl rfl rfl rfl ?_
  refine r_geti C rfl f_X12_116 (by assumption) rfl ?_
  refine r_ic (v := nI 1) C rfl (by decide) ?_
  rw [h2]
  refine r_icmp_ne C 35 rfl (by decide) (fun h => no1 ?_) (fun hk1 => ?_)
  · unfold wd
    rw [decide_eq_false (p := σ.2.2.1 = 1) (fun z => h (by rw [z])), Bool.false_and, Bool.false_and, Bool.and_false]
  have hk1 : σ.2.2.1 = 1 := (nI_eq (b := 1) (by omega) (by omega)).mp hk1
  refine r_aload_n C 1 rfl rfl rfl rfl ?_
  refine k0_r C rfl mfS_len lk_X12_145 hi rfl (c_S_len hi) ?_
  refine r_aload_n C 0 rfl rfl rfl rfl ?_
  refine r_geti C rfl f_X12_136 (by assumption) rfl ?_
  rw [h4]
  refine r_aload_n C 0 rfl rfl rfl rfl ?_
  refine r_geti C rfl f_X12_113 (by assumption) rfl ?_
  rw [h3]
  refine r_isub C rfl ?_
  rw [pk_sub (by omega)]
  refine r_icmp_ne C 35 rfl (by decide) (fun h => no1 ?_) (fun hl => ?_)
  · unfold wd
    rw [decide_eq_false (p := σ.2.2.2.2 - σ.2.2.2.1 = (wordB i).length) (fun z => h (by rw [z])), Bool.and_false, Bool.false_and, Bool.and_false]
  have hl : (wordB i).length = σ.2.2.2.2 - σ.2.2.2.1 := (nI_eq (by omega) (by omega)).mp hl
  have ew : (decide (σ.1 = 0) && wd (wordB i) β σ) = allB (fun j => decide (β (σ.2.2.2.1 + j) = nI ((wordB i).getD j 0))) (wordB i).length := by
    unfold wd
    rw [decide_eq_true hb0, decide_eq_true hk1, decide_eq_true hl.symm, Bool.true_and, Bool.true_and, Bool.true_and]
  have loop : ∀ (m j : Nat), j + m = (wordB i).length → allB (fun j => decide (β (σ.2.2.2.1 + j) = nI ((wordB i).getD j 0))) j = true → PT k E Q 0 0 Sh N G M 39 [some (.ref o), some (.retAddr i), some (.int (nI 1)), some (.int (nI j))] [] := by
    intro m
    induction m with
    | zero =>
      intro j hj ha
      have e : j = (wordB i).length := by omega
      refine r_iload_n C 2 rfl rfl rfl ?_
      refine r_if_eq C 82 rfl (by decide) (fun z => absurd z (by decide)) (fun _ => ?_)
      refine r_iload_n C 3 rfl rfl rfl ?_
      refine r_aload_n C 1 rfl rfl rfl rfl ?_
      refine k0_r C rfl mfS_len lk_X12_145 hi rfl (c_S_len hi) ?_
      refine r_icmp_ge C 82 rfl (by decide) (fun _ => ?_) (fun z => absurd ((nI_leI (by omega) (by omega)).mpr (by omega)) z)
      refine r_iload_n C 2 rfl rfl rfl ?_
      exact q_iret C hQ rfl rfl rfl ⟨by rw [ew, ← e, ha]; rfl, rfl, rfl, rfl⟩
    | succ m ih =>
      intro j hj ha
      refine r_iload_n C 2 rfl rfl rfl ?_
      refine r_if_eq C 82 rfl (by decide) (fun z => absurd z (by decide)) (fun _ => ?_)
      refine r_iload_n C 3 rfl rfl rfl ?_
      refine r_aload_n C 1 rfl rfl rfl rfl ?_
      refine k0_r C rfl mfS_len lk_X12_145 hi rfl (c_S_len hi) ?_
      refine r_icmp_ge C 82 rfl (by decide) (fun z => absurd (le_nI (by omega) (by omega) z) (by omega)) (fun _ => ?_)
      refine r_aload_n C 1 rfl rfl rfl rfl ?_
      refine r_iload_n C 3 rfl rfl rfl ?_
      refine k1_r C rfl mfS_charAt lk_X12_151 hi rfl (c_S_charAt hi (by omega)) ?_
      refine r_aload_n C 0 rfl rfl rfl rfl ?_
      refine r_getv C rfl f_X12_37 (by assumption) rfl ?_
      refine r_aload_n C 0 rfl rfl rfl rfl ?_
      refine r_geti C rfl f_X12_113 (by assumption) rfl ?_
      rw [h3]
      refine r_iload_n C 3 rfl rfl rfl ?_
      refine r_iadd C rfl ?_
      rw [nI_add]
      refine r_iald C rfl (by assumption) (σ.2.2.2.1 + j) rfl (by omega) (by decide) ?_
      rw [hT.2.2.1 _ (by omega)]
      refine r_icmp_ne C 74 rfl (by decide) (fun h => ?_) (fun h => ?_)
      · have ea : allB (fun j => decide (β (σ.2.2.2.1 + j) = nI ((wordB i).getD j 0))) (j + 1) = false := by
          rw [allB, decide_eq_false (fun z => h z.symm), Bool.and_false]
        refine r_ic (v := nI 0) C rfl (by decide) ?_
        refine r_istore_n C 2 rfl rfl (by exact Nat.le_of_ble_eq_true rfl) ?_
        refine r_iinc (c := nI 1) C rfl rfl (by decide) ?_
        refine r_goto C 39 rfl (by decide) ?_
        refine r_iload_n C 2 rfl rfl rfl ?_
        refine r_if_eq C 82 rfl (by decide) (fun _ => no (by rw [ew, show (wordB i).length = j + 1 + m by omega]; exact allB_mono ea m) _) (fun z => absurd rfl z)
      · refine r_ic (v := nI 1) C rfl (by decide) ?_
        refine r_goto C 75 rfl (by decide) ?_
        refine r_istore_n C 2 rfl rfl (by exact Nat.le_of_ble_eq_true rfl) ?_
        refine r_iinc (c := nI 1) C rfl rfl (by decide) ?_
        refine r_goto C 39 rfl (by decide) ?_
        refine r_eqL ?_ (ih (j + 1) (by omega) (by rw [allB, ha, decide_eq_true h.symm]; rfl))
        first | rfl | (simp only [sm, add3, nI_add, Int32.add_zero, Int32.zero_add]; rfl)
  refine r_ic (v := nI 1) C rfl (by decide) ?_
  refine r_goto C 36 rfl (by decide) ?_
  refine r_istore_n C 2 rfl rfl (by exact Nat.le_of_ble_eq_true rfl) ?_
  refine r_ic (v := nI 0) C rfl (by decide) ?_
  refine r_istore_n C 3 rfl rfl (by exact Nat.le_of_ble_eq_true rfl) ?_
  exact loop (wordB i).length 0 (by omega) rfl
theorem m_passes (hM : MO Sh N o) (hT : RTx M o n β) (hP : RP M o β σ) (hv : PV β n σ) (hb : σ.1 < 100) {i : Nat} (hi : i < 18) : Con E mX12_passes 6 0 0 [.ref o, .retAddr i] Sh N G M (PR Sh N (fun v M' => v = some (.int (bI (takeW (wordB i) β n σ).1)) ∧ FJ o JT M M' ∧ RP M' o β (takeW (wordB i) β n σ).2)) nox := by
  have h0 := hM.1
  refine Con.ofQ (by decide +kernel) (by simp [Value.category]) (Nat.le_of_ble_eq_true rfl) (fun k C0 Q hQ => ?_)
  have C : CK k E mX12_passes kdX12_passes 6 0 0 := ⟨C0, kdX12_passes_ok⟩
  refine r_aload_n C 0 rfl rfl rfl rfl ?_
  refine r_aload_n C 1 rfl rfl rfl rfl ?_
  refine v1_r C rfl mfX12_is lk_X12_155 (by assumption) (m_is hM hT hP hv hb hi) ?_
  refine r_istore_n C 2 rfl rfl (by exact Nat.le_of_ble_eq_true rfl) ?_
  refine r_iload_n C 2 rfl rfl rfl ?_
  refine r_if_eq C 14 rfl (by decide) (fun h => ?_) (fun h => ?_)
  · have h := bI_0 h
    have e : takeW (wordB i) β n σ = (false, σ) := by
      unfold takeW
      rw [if_neg]
      rintro ⟨z1, z2⟩
      rw [decide_eq_true z1, z2] at h
      exact absurd h (by decide)
    refine r_iload_n C 2 rfl rfl rfl ?_
    refine q_iret C hQ rfl rfl ?_ ⟨rfl, rfl, by rw [e, h], FJ.rfl, by rw [e]; exact hP⟩
    rw [h]; rfl
  · have h := bI_1 h
    have e : takeW (wordB i) β n σ = (true, adv β n σ) := by
      unfold takeW
      rw [if_pos]
      rw [Bool.and_eq_true] at h
      exact ⟨of_decide_eq_true h.1, h.2⟩
    refine r_aload_n C 0 rfl rfl rfl rfl ?_
    refine v0_g C rfl mfX12_stepOn lk_X12_159 (by assumption) (m_adv hM hT hP hv) ?_
    rintro z M1 ⟨rfl, hF, hP1⟩
    refine r_iload_n C 2 rfl rfl rfl ?_
    refine q_iret C hQ rfl rfl ?_ ⟨rfl, rfl, by rw [e, h], hF, by rw [e]; exact hP1⟩
    rw [h]; rfl
/-- what a number's reading owes: the place, and the number where there is no fault -/
theorem m_readNumber (hM : MO Sh N o) (hT : RTx M o n β) (hP : RP M o β σ) (hv : PV β n σ) (hb : σ.1 < 100) {x y : Int32} (lo hi : Nat) (hx : x = nI lo) (hy : y = nI hi) (hl : lo < 1000) (hh : hi < 1000) : Con E mX12_readNumber 3 0 0 [.ref o, .int x, .int y] Sh N G M (PR Sh N (fun v M' => (∃ z, v = some (.int z) ∧ ((takeN β n lo hi σ).2.1 = 0 → z = nI (takeN β n lo hi σ).1)) ∧ FJ o JB M M' ∧ RP M' o β (takeN β n lo hi σ).2)) nox := by
  subst hx; subst hy
  have h0 := hM.1
  have hn := hT.1
  have hk := hv.k
  have he := hv.e
  obtain ⟨h1, h2, h3, h4, h5, h6, h7⟩ := id hP
  refine Con.ofQ (by decide +kernel) (by simp [Value.category]) (Nat.le_of_ble_eq_true rfl) (fun k C0 Q hQ => ?_)
  have C : CK k E mX12_readNumber kdX12_readNumber 3 0 0 := ⟨C0, kdX12_readNumber_ok⟩
  refine r_aload_n C 0 rfl rfl rfl rfl ?_
  refine r_geti C rfl f_X12_139 (by assumption) rfl ?_
  rw [h5]
  refine r_if_eq C 9 rfl (by decide) (fun hb0 => ?_) (fun h => ?_)
  rotate_left
  · have h : σ.1 ≠ 0 := fun z => h (by rw [z]; rfl)
    have e : takeN β n lo hi σ = (lo, σ) := by unfold takeN; rw [if_pos h]
    refine r_ic (v := nI 0) C rfl (by decide) ?_
    exact q_iret C hQ rfl rfl rfl ⟨rfl, rfl, ⟨_, rfl, fun z => by rw [e] at z; exact absurd z h⟩, FJ.rfl, by rw [e]; exact hP⟩
  have hb0 : σ.1 = 0 := (nI_eq (b := 0) (by omega) (by omega)).mp hb0
  have bad : ∀ (q : Nat) (M1 : MM), q ≠ 0 → q < 100 → takeN β n lo hi σ = (lo, refu q σ) → FJ o (fun j => j = 20 ∨ j = 21) M M1 → RP M1 o β (refu q σ) → PT k E Q 0 0 Sh N G M1 59 [some (.ref o), some (.int (nI lo)), some (.int (nI hi)), none] [] := by
    intro q M1 hq hq1 e hF hP1
    have e1 : (refu q σ).1 = q := by unfold refu; rw [if_pos hb0]
    refine r_aload_n C 0 rfl rfl rfl rfl ?_
    refine r_geti C rfl f_X12_126 (by assumption) rfl ?_
    refine r_istore_n C 3 rfl rfl (by exact Nat.le_of_ble_eq_true rfl) ?_
    refine r_aload_n C 0 rfl rfl rfl rfl ?_
    refine r_geti C rfl f_X12_139 (by assumption) rfl ?_
    rw [hP1.2.2.2.2.1, e1]
    refine r_if_ne C 75 rfl (by decide) (fun _ => ?_) (fun z => absurd ((nI_eq (b := 0) (by omega) (by omega)).mp z) hq)
    refine r_iload_n C 3 rfl rfl rfl ?_
    exact q_iret C hQ rfl rfl rfl ⟨rfl, rfl, ⟨_, rfl, fun z => by rw [e] at z; exact absurd (e1.symm.trans z) hq⟩, hF.mono (fun j z => by simp only [JB]; omega), by rw [e]; exact hP1⟩
  refine r_aload_n C 0 rfl rfl rfl rfl ?_
  refine r_geti C rfl f_X12_116 (by assumption) rfl ?_
  refine r_ic (v := nI 2) C rfl (by decide) ?_
  rw [h2]
  refine r_icmp_eq C 25 rfl (by decide) (fun hk2 => ?_) (fun h => ?_)
  rotate_left
  · have h : σ.2.2.1 ≠ 2 := fun z => h (by rw [z])
    refine r_aload_n C 0 rfl rfl rfl rfl ?_
    refine r_ic (v := nI 1) C rfl (by decide) ?_
    refine v1_g C rfl mfX12_wrong lk_X12_162 (by assumption) (m_wrong hM hP hv hn 1 rfl (by decide) hb) ?_
    rintro z M1 ⟨rfl, hF, hP1⟩
    refine r_goto C 59 rfl (by decide) ?_
    exact bad 1 M1 (by decide) (by decide) (by unfold takeN; rw [if_neg (fun z => z hb0), if_pos h]) hF hP1
  have hk2 : σ.2.2.1 = 2 := (nI_eq (b := 2) (by omega) (by omega)).mp hk2
  have over : (4 < σ.2.2.2.2 - σ.2.2.2.1 ∨ tokN β σ < lo ∨ hi < tokN β σ) → PT k E Q 0 0 Sh N G M 54 [some (.ref o), some (.int (nI lo)), some (.int (nI hi)), none] [] := by
    intro h
    refine r_aload_n C 0 rfl rfl rfl rfl ?_
    refine r_ic (v := nI 2) C rfl (by decide) ?_
    refine v1_g C rfl mfX12_wrong lk_X12_162 (by assumption) (m_wrong hM hP hv hn 2 rfl (by decide) hb) ?_
    rintro z M1 ⟨rfl, hF, hP1⟩
    exact bad 2 M1 (by decide) (by decide) (by unfold takeN; rw [if_neg (fun z => z hb0), if_neg (fun z => z hk2), if_pos h]) hF hP1
  refine r_aload_n C 0 rfl rfl rfl rfl ?_
  refine r_geti C rfl f_X12_136 (by assumption) rfl ?_
  rw [h4]
  refine r_aload_n C 0 rfl rfl rfl rfl ?_
  refine r_geti C rfl f_X12_113 (by assumption) rfl ?_
  rw [h3]
  refine r_isub C rfl ?_
  refine r_ic (v := nI 4) C rfl (by decide) ?_
  rw [pk_sub (by omega)]
  refine r_icmp_gt C 54 rfl (by decide) (fun h => over (Or.inl (lt_nI (a := 4) (by omega) (by omega) h))) (fun hl4 => ?_)
  have hl4 : σ.2.2.2.2 - σ.2.2.2.1 ≤ 4 := Nat.not_lt.mp (fun z => hl4 ((nI_ltI (a := 4) (by omega) (by omega)).mpr z))
  have e17 := h7 hk2 hl4
  have hlt := nm_lt (β := β) σ.2.2.2.1 _ (hv.di hk2)
  have hlt : tokN β σ < 10000 := by
    have h9 : 10 ^ (σ.2.2.2.2 - σ.2.2.2.1) ≤ 10 ^ 4 := Nat.pow_le_pow_right (by decide) hl4
    unfold tokN
    omega
  refine r_aload_n C 0 rfl rfl rfl rfl ?_
  refine r_geti C rfl f_X12_126 (by assumption) rfl ?_
  refine r_iload_n C 1 rfl rfl rfl ?_
  rw [e17]
  refine r_icmp_lt C 54 rfl (by decide) (fun h => over (Or.inr (Or.inl (lt_nI (by omega) (by omega) h)))) (fun hlo => ?_)
  have hlo : lo ≤ tokN β σ := Nat.not_lt.mp (fun z => hlo ((nI_ltI (by omega) (by omega)).mpr z))
  refine r_aload_n C 0 rfl rfl rfl rfl ?_
  refine r_geti C rfl f_X12_126 (by assumption) rfl ?_
  refine r_iload_n C 2 rfl rfl rfl ?_
  rw [e17]
  refine r_icmp_le C 59 rfl (by decide) (fun hhi => ?_) (fun h => ?_)
  rotate_left
  · exact over (Or.inr (Or.inr (nle_nI (by omega) (by omega) h)))
  have hhi : tokN β σ ≤ hi := le_nI (by omega) (by omega) hhi
  have e : takeN β n lo hi σ = (tokN β σ, adv β n σ) := by unfold takeN; rw [if_neg (fun z => z hb0), if_neg (fun z => z hk2), if_neg (by omega)]
  refine r_aload_n C 0 rfl rfl rfl rfl ?_
  refine r_geti C rfl f_X12_126 (by assumption) rfl ?_
  rw [e17]
  refine r_istore_n C 3 rfl rfl (by exact Nat.le_of_ble_eq_true rfl) ?_
  refine r_aload_n C 0 rfl rfl rfl rfl ?_
  refine r_geti C rfl f_X12_139 (by assumption) rfl ?_
  rw [h5, hb0]
  refine r_if_ne C 75 rfl (by decide) (fun z => absurd rfl z) (fun _ => ?_)
  refine r_aload_n C 0 rfl rfl rfl rfl ?_
  refine v0_g C rfl mfX12_stepOn lk_X12_159 (by assumption) (m_adv hM hT hP hv) ?_
  rintro z M1 ⟨rfl, hF, hP1⟩
  refine r_iload_n C 3 rfl rfl rfl ?_
  exact q_iret C hQ rfl rfl rfl ⟨rfl, rfl, ⟨_, rfl, fun _ => by rw [e]⟩, hF.mono (fun j z => by simp only [JB]; simp only [JT] at z; omega), by rw [e]; exact hP1⟩
theorem m_perhaps (hM : MO Sh N o) (hT : RTx M o n β) (hP : RP M o β σ) (hv : PV β n σ) (hb : σ.1 < 100) {i : Nat} (hi : i < 18) {x y : Int32} (hh wo : Nat) (hx : x = nI hh) (hy : y = nI wo) (hl : hh < 1000) : Con E mX12_perhaps 7 0 0 [.ref o, .retAddr i, .int x, .int y] Sh N G M (PR Sh N (fun v M' => (∃ z, v = some (.int z) ∧ ((takeO (wordB i) β n hh wo σ).2.1 = 0 → z = nI (takeO (wordB i) β n hh wo σ).1)) ∧ FJ o JB M M' ∧ RP M' o β (takeO (wordB i) β n hh wo σ).2)) nox := by
  subst hx; subst hy
  have h0 := hM.1
  have h1 := takeW_rv (β := β) (wordB i) hv
  refine Con.ofQ (by decide +kernel) (by simp [Value.category]) (Nat.le_of_ble_eq_true rfl) (fun k C0 Q hQ => ?_)
  have C : CK k E mX12_perhaps kdX12_perhaps 7 0 0 := ⟨C0, kdX12_perhaps_ok⟩
  refine r_aload_n C 0 rfl rfl rfl rfl ?_
  refine r_aload_n C 1 rfl rfl rfl rfl ?_
  refine v1_g C rfl mfX12_passes lk_X12_166 (by assumption) (m_passes hM hT hP hv hb hi) ?_
  rintro z M1 ⟨rfl, hF, hP1⟩
  have hT1 := hT.fj hF (by decide)
  refine r_if_eq C 17 rfl (by decide) (fun h => ?_) (fun h => ?_)
  · have h := bI_0 h
    have e : takeO (wordB i) β n hh wo σ = (wo, (takeW (wordB i) β n σ).2) := by unfold takeO; rw [h, if_neg ff_t]
    refine r_iload_n C 3 rfl rfl rfl ?_
    exact q_iret C hQ rfl rfl rfl ⟨rfl, rfl, ⟨_, rfl, fun _ => by rw [e]⟩, hF.mono (fun j z => by simp only [JB]; simp only [JT] at z; omega), by rw [e]; exact hP1⟩
  · have h := bI_1 h
    have e : takeO (wordB i) β n hh wo σ = takeN β n 0 hh (takeW (wordB i) β n σ).2 := by unfold takeO; rw [h, if_pos tt_t]
    have hb1 : (takeW (wordB i) β n σ).2.1 < 100 := by unfold takeW; split <;> exact hb
    refine r_aload_n C 0 rfl rfl rfl rfl ?_
    refine r_ic (v := nI 0) C rfl (by decide) ?_
    refine r_iload_n C 2 rfl rfl rfl ?_
    refine v2_g C rfl mfX12_readNumber lk_X12_169 (by assumption) (m_readNumber hM hT1 hP1 h1.1 hb1 0 hh rfl rfl (by decide) hl) ?_
    rintro z M2 ⟨⟨w, rfl, hw⟩, hF2, hP2⟩
    refine r_goto C 18 rfl (by decide) ?_
    exact q_iret C hQ rfl rfl rfl ⟨rfl, rfl, ⟨_, rfl, fun q => by rw [e] at q ⊢; exact hw q⟩, (hF.mono (fun j z => by simp only [JB]; simp only [JT] at z; omega)).trans hF2, by rw [e]; exact hP2⟩
theorem takeN_c (lo hi : Nat) (h : σ.1 < 100) : (takeN β n lo hi σ).2.1 < 100 := by
  unfold takeN refu adv
  repeat' split
  all_goals first | exact h | (show 1 < 100; decide) | (show 2 < 100; decide)
theorem takeW_c (w : List Nat) (h : σ.1 < 100) : (takeW w β n σ).2.1 < 100 := by unfold takeW; split <;> exact h
theorem takeO_c (w : List Nat) (hi wo : Nat) (h : σ.1 < 100) : (takeO w β n hi wo σ).2.1 < 100 := by
  unfold takeO
  split
  · exact takeN_c 0 hi (takeW_c w h)
  · exact takeW_c w h
theorem takeN_0 {lo hi : Nat} (h : (takeN β n lo hi σ).2.1 = 0) : σ.1 = 0 := by
  unfold takeN at h
  by_cases q : σ.1 = 0
  · exact q
  · rw [if_pos q] at h; exact h
theorem takeW_0 {w : List Nat} (h : (takeW w β n σ).2.1 = 0) : σ.1 = 0 := by
  unfold takeW at h
  split at h
  · exact h
  · exact h
theorem takeO_0 {w : List Nat} {hi wo : Nat} (h : (takeO w β n hi wo σ).2.1 = 0) : σ.1 = 0 := by
  unfold takeO at h
  split at h
  · exact takeW_0 (takeN_0 h)
  · exact takeW_0 h
theorem m_semi (hM : MO Sh N o) (hT : RTx M o n β) (hP : RP M o β σ) (hv : PV β n σ) (hb : σ.1 < 100) : Con E mX12_semi 3 0 0 [.ref o] Sh N G M (PR Sh N (fun v M' => v = none ∧ FJ o JB M M' ∧ RP M' o β (lineT β n σ))) nox := by
  have h0 := hM.1
  have hn := hT.1
  have hk := hv.k
  obtain ⟨h1, h2, h3, h4, h5, h6, h7⟩ := id hP
  refine Con.ofQ (by decide +kernel) (by simp [Value.category]) (Nat.le_of_ble_eq_true rfl) (fun k C0 Q hQ => ?_)
  have C : CK k E mX12_semi kdX12_semi 3 0 0 := ⟨C0, kdX12_semi_ok⟩
  have out : ∀ (σ2 : RdS) (M1 : MM), σ2.1 ≠ 0 → σ2.1 < 100 → lineT β n σ = σ2 → FJ o JB M M1 → RP M1 o β σ2 → PT k E Q 0 0 Sh N G M1 20 [some (.ref o)] [] := by
    intro σ2 M1 hz hz1 e hF hP1
    refine r_aload_n C 0 rfl rfl rfl rfl ?_
    refine r_geti C rfl f_X12_139 (by assumption) rfl ?_
    rw [hP1.2.2.2.2.1]
    refine r_if_ne C 31 rfl (by decide) (fun _ => ?_) (fun z => absurd ((nI_eq (b := 0) (by omega) (by omega)).mp z) hz)
    exact q_vret C hQ rfl rfl ⟨rfl, rfl, rfl, hF, by rw [e]; exact hP1⟩
  refine r_aload_n C 0 rfl rfl rfl rfl ?_
  refine r_geti C rfl f_X12_139 (by assumption) rfl ?_
  rw [h5]
  refine r_if_ne C 20 rfl (by decide) (fun h => ?_) (fun hb0 => ?_)
  · have h : σ.1 ≠ 0 := fun z => h (by rw [z]; rfl)
    exact out σ M h hb (by unfold lineT refu; rw [if_neg (fun z => h z.1), if_neg h]) FJ.rfl hP
  have hb0 : σ.1 = 0 := (nI_eq (b := 0) (by omega) (by omega)).mp hb0
  refine r_aload_n C 0 rfl rfl rfl rfl ?_
  refine r_geti C rfl f_X12_116 (by assumption) rfl ?_
  refine r_ic (v := nI 3) C rfl (by decide) ?_
  rw [h2]
  refine r_icmp_eq C 20 rfl (by decide) (fun hk3 => ?_) (fun h => ?_)
  rotate_left
  · have h : σ.2.2.1 ≠ 3 := fun z => h (by rw [z])
    refine r_aload_n C 0 rfl rfl rfl rfl ?_
    refine r_ic (v := nI 1) C rfl (by decide) ?_
    refine v1_g C rfl mfX12_wrong lk_X12_162 (by assumption) (m_wrong hM hP hv hn 1 rfl (by decide) hb) ?_
    rintro z M1 ⟨rfl, hF, hP1⟩
    have e1 : (refu 1 σ).1 = 1 := by unfold refu; rw [if_pos hb0]
    exact out _ M1 (by rw [e1]; decide) (by rw [e1]; decide) (by unfold lineT; rw [if_neg (fun z => h z.2)]) (hF.mono (fun j z => by simp only [JB]; omega)) hP1
  have hk3 : σ.2.2.1 = 3 := (nI_eq (b := 3) (by omega) (by omega)).mp hk3
  refine r_aload_n C 0 rfl rfl rfl rfl ?_
  refine r_geti C rfl f_X12_139 (by assumption) rfl ?_
  rw [h5, hb0]
  refine r_if_ne C 31 rfl (by decide) (fun z => absurd rfl z) (fun _ => ?_)
  refine r_aload_n C 0 rfl rfl rfl rfl ?_
  refine v0_g C rfl mfX12_stepOn lk_X12_159 (by assumption) (m_adv hM hT hP hv) ?_
  rintro z M1 ⟨rfl, hF, hP1⟩
  exact q_vret C hQ rfl rfl ⟨rfl, rfl, rfl, hF.mono (fun j z => by simp only [JB]; simp only [JT] at z; omega), by unfold lineT; rw [if_pos ⟨hb0, hk3⟩]; exact hP1⟩
end RREAD2
