section RREAD
variable {E : VE} {Sh : Nat → SE} {N : Nat} {G : Bool} {M M' M'' : MM} {o n b : Nat} {β : Nat → Int32} {σ : RdS}
/-- only fields of this cell have changed, and of those only these -/
def FJ (o : Nat) (J : Nat → Prop) (M M' : MM) : Prop := (∀ c, c ≠ o → M' c = M c) ∧ ∀ j, ¬ J j → M' o j = M o j
theorem FJ.rfl {J : Nat → Prop} : FJ o J M M := ⟨fun _ _ => Eq.refl _, fun _ _ => Eq.refl _⟩
theorem FJ.trans {J : Nat → Prop} (h : FJ o J M M') (h' : FJ o J M' M'') : FJ o J M M'' := ⟨fun c hc => (h'.1 c hc).trans (h.1 c hc), fun j hj => (h'.2 j hj).trans (h.2 j hj)⟩
theorem FJ.mono {J J' : Nat → Prop} (h : FJ o J M M') (hj : ∀ j, J j → J' j) : FJ o J' M M' := ⟨h.1, fun j q => h.2 j (fun z => q (hj j z))⟩
theorem FJ.up {J : Nat → Prop} (h : FJ o J M M') {j : Nat} (hj : J j) (v : Int32) : FJ o J M (up M' o j v) := ⟨fun c hc => by rw [up_row _ _ hc]; exact h.1 c hc, fun i hi => by rw [up_ne _ _ (fun q => hi (by rw [q.2]; exact hj))]; exact h.2 i hi⟩
/-- the fields by which a token is told -/
abbrev JT (j : Nat) : Prop := 14 ≤ j ∧ j ≤ 19 ∧ j ≠ 15
abbrev JB (j : Nat) : Prop := 14 ≤ j ∧ j ≤ 21 ∧ j ≠ 15
/-- what the reference knows of the text -/
def RTx (M : MM) (o n : Nat) (β : Nat → Int32) : Prop := n ≤ 700 ∧ M o 15 = nI n ∧ (∀ i, i < n → M (o + 10) i = β i) ∧ ∀ i, i < n → β i ≠ -1
theorem RTx.fj {J : Nat → Prop} (h : RTx M o n β) (hF : FJ o J M M') (hj : ¬ J 15) : RTx M' o n β := ⟨h.1, (hF.2 15 hj).trans h.2.1, fun i hi => by rw [hF.1 _ (by omega)]; exact h.2.2.1 i hi, h.2.2.2⟩
/-- where the reference reads -/
def RP (M : MM) (o : Nat) (β : Nat → Int32) (σ : RdS) : Prop := M o 14 = nI σ.2.2.2.2 ∧ M o 16 = nI σ.2.2.1 ∧ M o 18 = nI σ.2.2.2.1 ∧ M o 19 = nI σ.2.2.2.2 ∧ M o 20 = nI σ.1 ∧ (σ.1 ≠ 0 → M o 21 = nI σ.2.1) ∧ (σ.2.2.1 = 2 → σ.2.2.2.2 - σ.2.2.2.1 ≤ 4 → M o 17 = nI (tokN β σ))
theorem c_byteAt (hM : MO Sh N o) (hT : RTx M o n β) {x : Int32} (p : Nat) (hx : x = nI p) (hp : p < 2 ^ 30) : Con E mX12_byteAt 1 0 0 [.ref o, .int x] Sh N G M (P1 (some (.int (if p < n then β p else -1))) Sh N M) nox := by
  subst hx
  have h0 := hM.1
  have h10 : At Sh N (o + 10) (arE 0 700) := hM.ar 9 rfl
  have hn := hT.1
  refine Con.ofQ (by decide +kernel) (by simp [Value.category]) (Nat.le_of_ble_eq_true rfl) (fun k C0 Q hQ => ?_)
  have C : CK k E mX12_byteAt kdX12_byteAt 1 0 0 := ⟨C0, kdX12_byteAt_ok⟩
  refine r_iload_n C 1 rfl rfl rfl ?_
  refine r_aload_n C 0 rfl rfl rfl rfl ?_
  refine r_geti C rfl f_X12_103 (by assumption) rfl ?_
  rw [hT.2.1]
  refine r_icmp_ge C 17 rfl (by decide) (fun h => ?_) (fun h => ?_)
  · have h := le_nI (by omega) (by omega) h
    refine r_ic (v := (-1)) C rfl (by decide) ?_
    exact q_iret C hQ rfl rfl rfl ⟨by rw [if_neg (by omega)], rfl, rfl, rfl⟩
  · have h := nle_nI (by omega) (by omega) h
    refine r_aload_n C 0 rfl rfl rfl rfl ?_
    refine r_getv C rfl f_X12_37 (by assumption) rfl ?_
    refine r_iload_n C 1 rfl rfl rfl ?_
    refine r_iald C rfl (by assumption) (p) rfl (by omega) (by decide) ?_
    rw [hT.2.2.1 p h]
    refine r_goto C 18 rfl (by decide) ?_
    exact q_iret C hQ rfl rfl rfl ⟨by rw [if_pos h], rfl, rfl, rfl⟩
theorem c_isLetter (c : Int32) : Con E mX12_isLetter 1 0 0 [.int c] Sh N G M (P1 (some (.int (bI (isLe c)))) Sh N M) nox := by
  refine Con.ofQ (by decide +kernel) (by simp [Value.category]) (Nat.le_of_ble_eq_true rfl) (fun k C0 Q hQ => ?_)
  have C : CK k E mX12_isLetter kdX12_isLetter 1 0 0 := ⟨C0, kdX12_isLetter_ok⟩
  have no : isLe c = false → PT k E Q 0 0 Sh N G M 16 [some (.int c)] [] := by
    intro h
    refine r_ic (v := nI 0) C rfl (by decide) ?_
    exact q_iret C hQ rfl rfl rfl ⟨by rw [h]; rfl, rfl, rfl, rfl⟩
  refine r_iload_n C 0 rfl rfl rfl ?_
  refine r_bi (v := nI 97) C rfl (by decide) ?_
  refine r_icmp_lt C 16 rfl (by decide) (fun h => no (decide_eq_false (fun q => absurd q.1 (Int32.not_le.mpr h)))) (fun h => ?_)
  refine r_iload_n C 0 rfl rfl rfl ?_
  refine r_bi (v := nI 122) C rfl (by decide) ?_
  refine r_icmp_gt C 16 rfl (by decide) (fun h2 => no (decide_eq_false (fun q => absurd q.2 (Int32.not_le.mpr h2)))) (fun h2 => ?_)
  have hy : isLe c = true := decide_eq_true ⟨Int32.not_lt.mp h, Int32.not_lt.mp h2⟩
  refine r_ic (v := nI 1) C rfl (by decide) ?_
  refine r_goto C 17 rfl (by decide) ?_
  exact q_iret C hQ rfl rfl rfl ⟨by rw [hy]; rfl, rfl, rfl, rfl⟩
theorem c_isDigit (c : Int32) : Con E mX12_isDigit 1 0 0 [.int c] Sh N G M (P1 (some (.int (bI (isDi c)))) Sh N M) nox := by
  refine Con.ofQ (by decide +kernel) (by simp [Value.category]) (Nat.le_of_ble_eq_true rfl) (fun k C0 Q hQ => ?_)
  have C : CK k E mX12_isDigit kdX12_isDigit 1 0 0 := ⟨C0, kdX12_isDigit_ok⟩
  have no : isDi c = false → PT k E Q 0 0 Sh N G M 16 [some (.int c)] [] := by
    intro h
    refine r_ic (v := nI 0) C rfl (by decide) ?_
    exact q_iret C hQ rfl rfl rfl ⟨by rw [h]; rfl, rfl, rfl, rfl⟩
  refine r_iload_n C 0 rfl rfl rfl ?_
  refine r_bi (v := nI 48) C rfl (by decide) ?_
  refine r_icmp_lt C 16 rfl (by decide) (fun h => no (decide_eq_false (fun q => absurd q.1 (Int32.not_le.mpr h)))) (fun h => ?_)
  refine r_iload_n C 0 rfl rfl rfl ?_
  refine r_bi (v := nI 57) C rfl (by decide) ?_
  refine r_icmp_gt C 16 rfl (by decide) (fun h2 => no (decide_eq_false (fun q => absurd q.2 (Int32.not_le.mpr h2)))) (fun h2 => ?_)
  have hy : isDi c = true := decide_eq_true ⟨Int32.not_lt.mp h, Int32.not_lt.mp h2⟩
  refine r_ic (v := nI 1) C rfl (by decide) ?_
  refine r_goto C 17 rfl (by decide) ?_
  exact q_iret C hQ rfl rfl rfl ⟨by rw [hy]; rfl, rfl, rfl, rfl⟩
theorem isLe_m1 : isLe (-1) = false := by decide
theorem isDi_m1 : isDi (-1) = false := by decide
def cp (β : Nat → Int32) (s : Nat) : Nat → Nat
  | 0 => 0
  | m + 1 => min 100000 (10 * cp β s m + dg (β (s + m)))
theorem cp_le (s : Nat) : ∀ m, cp β s m ≤ 100000
  | 0 => Nat.zero_le _
  | m + 1 => Nat.min_le_left _ _
theorem cp_nm (s : Nat) : ∀ m, m ≤ 4 → (∀ i, i < m → isDi (β (s + i)) = true) → cp β s m = nm β s m
  | 0, _, _ => rfl
  | m + 1, hm, h => by
    have h1 := nm_lt s (m + 1) h
    have h2 : 10 ^ (m + 1) ≤ 10 ^ 4 := Nat.pow_le_pow_right (by decide) hm
    rw [cp, cp_nm s m (by omega) (fun i hi => h i (by omega))]
    rw [nm] at h1 ⊢
    omega
/-- the next token -/
theorem m_stepOn (hM : MO Sh N o) (hT : RTx M o n β) (hp : M o 14 = nI σ.2.2.2.2) (hpn : σ.2.2.2.2 ≤ n) (hb : M o 20 = nI σ.1) (hbp : σ.1 ≠ 0 → M o 21 = nI σ.2.1) :
    Con E mX12_stepOn 2 0 0 [.ref o] Sh N G M (PR Sh N (fun v M' => v = none ∧ FJ o JT M M' ∧ RP M' o β (adv β n σ))) nox := by
  have h0 := hM.1
  have hn := hT.1
  refine Con.ofQ (by decide +kernel) (by simp [Value.category]) (Nat.le_of_ble_eq_true rfl) (fun k C0 Q hQ => ?_)
  have C : CK k E mX12_stepOn kdX12_stepOn 2 0 0 := ⟨C0, kdX12_stepOn_ok⟩
  obtain ⟨s, hs⟩ : ∃ s, s = tkS β n σ.2.2.2.2 := ⟨_, rfl⟩
  have hsn : s ≤ n := by rw [hs]; exact (run_le hpn).2
  have fin : ∀ (M1 : MM) (c : Int32), FJ o JT M M1 → M1 o 14 = nI (tkE β n s) → M1 o 16 = nI (tkK β n s) → M1 o 18 = nI s → (tkK β n s = 2 → tkE β n s - s ≤ 4 → M1 o 17 = nI (nm β s (tkE β n s - s))) → PT k E Q 0 0 Sh N G M1 211 [some (.ref o), some (.int c)] [] := by
    intro M1 c hF h14 h16 h18 h17
    refine r_aload_n C 0 rfl rfl rfl rfl ?_
    refine r_aload_n C 0 rfl rfl rfl rfl ?_
    refine r_geti C rfl f_X12_106 (by assumption) rfl ?_
    rw [h14]
    refine r_puti C rfl f_X12_136 (by assumption) rfl rfl rfl ?_
    refine q_vret C hQ rfl rfl ⟨rfl, rfl, rfl, hF.up (by decide) _, ?_⟩
    unfold RP adv
    rw [← hs]
    refine ⟨by rw [up_ne _ _ (by omega)]; exact h14, by rw [up_ne _ _ (by omega)]; exact h16, by rw [up_ne _ _ (by omega)]; exact h18, up_same _ _ _ _, by rw [up_ne _ _ (by omega), hF.2 20 (by decide)]; exact hb, fun q => by rw [up_ne _ _ (by omega), hF.2 21 (by decide)]; exact hbp q, fun q q2 => by rw [up_ne _ _ (by omega)]; exact h17 q q2⟩
  have mid : ∀ (M1 : MM) (v1 : Option Value), FJ o JT M M1 → M1 o 14 = nI s → PT k E Q 0 0 Sh N G M1 39 [some (.ref o), v1] [] := by
    intro M1 v1 hF h14
    have hT1 := hT.fj hF (by decide)
    refine r_aload_n C 0 rfl rfl rfl rfl ?_
    refine r_aload_n C 0 rfl rfl rfl rfl ?_
    refine r_geti C rfl f_X12_106 (by assumption) rfl ?_
    rw [h14]
    refine r_puti C rfl f_X12_113 (by assumption) rfl rfl rfl ?_
    refine r_aload_n C 0 rfl rfl rfl rfl ?_
    refine r_aload_n C 0 rfl rfl rfl rfl ?_
    refine r_geti C rfl f_X12_106 (by assumption) rfl ?_
    obtain ⟨M2, hM2⟩ : ∃ M2, M2 = up M1 o 18 (nI s) := ⟨_, rfl⟩
    rw [← hM2]
    have hF2 : FJ o JT M M2 := by rw [hM2]; exact hF.up (by decide) _
    have g14 : M2 o 14 = nI s := by rw [hM2, up_ne _ _ (by omega)]; exact h14
    have g18 : M2 o 18 = nI s := by rw [hM2, up_same]
    have hT2 := hT.fj hF2 (by decide)
    rw [g14]
    refine v1_r C rfl mfX12_byteAt lk_X12_109 (by assumption) (c_byteAt hM hT2 s rfl (by omega)) ?_
    refine r_istore_n C 1 rfl rfl (by exact Nat.le_of_ble_eq_true rfl) ?_
    refine r_iload_n C 1 rfl rfl rfl ?_
    refine r_ic (v := (-1)) C rfl (by decide) ?_
    by_cases hsn2 : s < n
    rotate_left
    · rw [if_neg hsn2]
      refine r_icmp_ne C 69 rfl (by decide) (fun h => absurd rfl h) (fun _ => ?_)
      have eK : tkK β n s = 0 := by unfold tkK; rw [if_pos (by omega)]
      have eE : tkE β n s = s := by unfold tkE; rw [if_pos (by omega)]
      refine r_aload_n C 0 rfl rfl rfl rfl ?_
      refine r_ic (v := nI 0) C rfl (by decide) ?_
      refine r_puti C rfl f_X12_116 (by assumption) rfl rfl rfl ?_
      refine r_goto C 211 rfl (by decide) ?_
      exact fin _ _ (hF2.up (by decide) _) (by rw [up_ne _ _ (by omega), eE]; exact g14) (by rw [up_same, eK]) (by rw [up_ne _ _ (by omega)]; exact g18) (fun q => by rw [eK] at q; cases q)
    rw [if_pos hsn2]
    refine r_icmp_ne C 69 rfl (by decide) (fun _ => ?_) (fun h => absurd h (hT.2.2.2 s hsn2))
    refine r_iload_n C 1 rfl rfl rfl ?_
    refine s1_r C rfl mfX12_isLetter lk_X12_119 (c_isLetter (β s)) ?_
    refine r_if_eq C 111 rfl (by decide) (fun hl => ?_) (fun hl => ?_)
    rotate_left
    · have hl := bI_1 hl
      have eK : tkK β n s = 1 := by unfold tkK; rw [if_neg (by omega), if_pos hl]
      have eE : tkE β n s = run isLe β n s := by unfold tkE; rw [if_neg (by omega), if_pos hl]
      have loop : ∀ (m q : Nat) (M3 : MM), q + m = n → run isLe β n q = run isLe β n s → FJ o JT M M3 → M3 o 14 = nI q → M3 o 18 = nI s → PT k E Q 0 0 Sh N G M3 76 [some (.ref o), some (.int (β s))] [] := by
        intro m
        induction m with
        | zero =>
          intro q M3 hq hr hF3 k14 k18
          have hT3 := hT.fj hF3 (by decide)
          refine r_aload_n C 0 rfl rfl rfl rfl ?_
          refine r_aload_n C 0 rfl rfl rfl rfl ?_
          refine r_geti C rfl f_X12_106 (by assumption) rfl ?_
          rw [k14]
          refine v1_r C rfl mfX12_byteAt lk_X12_109 (by assumption) (c_byteAt hM hT3 q rfl (by omega)) ?_
          refine s1_r C rfl mfX12_isLetter lk_X12_119 (c_isLetter (if q < n then β q else -1)) ?_
          rw [if_neg (by omega), isLe_m1]
          refine r_if_eq C 103 rfl (by decide) (fun _ => ?_) (fun h => absurd rfl h)
          rw [run_stop (by omega)] at hr
          refine r_aload_n C 0 rfl rfl rfl rfl ?_
          refine r_ic (v := nI 1) C rfl (by decide) ?_
          refine r_puti C rfl f_X12_116 (by assumption) rfl rfl rfl ?_
          refine r_goto C 211 rfl (by decide) ?_
          exact fin _ _ (hF3.up (by decide) _) (by rw [up_ne _ _ (by omega), eE, ← hr]; exact k14) (by rw [up_same, eK]) (by rw [up_ne _ _ (by omega)]; exact k18) (fun q => by rw [eK] at q; cases q)
        | succ m ih =>
          intro q M3 hq hr hF3 k14 k18
          have hT3 := hT.fj hF3 (by decide)
          refine r_aload_n C 0 rfl rfl rfl rfl ?_
          refine r_aload_n C 0 rfl rfl rfl rfl ?_
          refine r_geti C rfl f_X12_106 (by assumption) rfl ?_
          rw [k14]
          refine v1_r C rfl mfX12_byteAt lk_X12_109 (by assumption) (c_byteAt hM hT3 q rfl (by omega)) ?_
          refine s1_r C rfl mfX12_isLetter lk_X12_119 (c_isLetter (if q < n then β q else -1)) ?_
          rw [if_pos (by omega)]
          refine r_if_eq C 103 rfl (by decide) (fun h => ?_) (fun h => ?_)
          · have h := bI_0 h
            rw [run_no h] at hr
            refine r_aload_n C 0 rfl rfl rfl rfl ?_
            refine r_ic (v := nI 1) C rfl (by decide) ?_
            refine r_puti C rfl f_X12_116 (by assumption) rfl rfl rfl ?_
            refine r_goto C 211 rfl (by decide) ?_
            exact fin _ _ (hF3.up (by decide) _) (by rw [up_ne _ _ (by omega), eE, ← hr]; exact k14) (by rw [up_same, eK]) (by rw [up_ne _ _ (by omega)]; exact k18) (fun q => by rw [eK] at q; cases q)
          · have h := bI_1 h
            rw [run_yes (by omega) h] at hr
            refine r_aload_n C 0 rfl rfl rfl rfl ?_
            refine r_dup C rfl rfl ?_
            refine r_geti C rfl f_X12_106 (by assumption) rfl ?_
            rw [k14]
            refine r_ic (v := nI 1) C rfl (by decide) ?_
            refine r_iadd C rfl ?_
            rw [nI_add]
            refine r_puti C rfl f_X12_106 (by assumption) rfl rfl rfl ?_
            refine r_goto C 76 rfl (by decide) ?_
            exact ih (q + 1) _ (by omega) hr (hF3.up (by decide) _) (up_same _ _ _ _) (by rw [up_ne _ _ (by omega)]; exact k18)
      exact loop (n - s) s M2 (by omega) rfl hF2 g14 g18
    have hl := bI_0 hl
    refine r_iload_n C 1 rfl rfl rfl ?_
    refine s1_r C rfl mfX12_isDigit lk_X12_123 (c_isDigit (β s)) ?_
    refine r_if_eq C 186 rfl (by decide) (fun hd => ?_) (fun hd => ?_)
    rotate_left
    · have hd := bI_1 hd
      have eK : tkK β n s = 2 := by unfold tkK; rw [if_neg (by omega), hl, if_neg ff_t, if_pos hd]
      have eE : tkE β n s = run isDi β n s := by unfold tkE; rw [if_neg (by omega), hl, if_neg ff_t, if_pos hd]
      have out : ∀ (q : Nat) (M3 : MM), q = run isDi β n s → s ≤ q → FJ o JT M M3 → M3 o 14 = nI q → M3 o 18 = nI s → M3 o 17 = nI (cp β s (q - s)) → (∀ i, i < q - s → isDi (β (s + i)) = true) → PT k E Q 0 0 Sh N G M3 178 [some (.ref o), some (.int (β s))] [] := by
        intro q M3 hq hsq hF3 k14 k18 k17 kd
        refine r_aload_n C 0 rfl rfl rfl rfl ?_
        refine r_ic (v := nI 2) C rfl (by decide) ?_
        refine r_puti C rfl f_X12_116 (by assumption) rfl rfl rfl ?_
        refine r_goto C 211 rfl (by decide) ?_
        refine fin _ _ (hF3.up (by decide) _) (by rw [up_ne _ _ (by omega), eE, ← hq]; exact k14) (by rw [up_same, eK]) (by rw [up_ne _ _ (by omega)]; exact k18) (fun _ z => ?_)
        rw [eE, ← hq] at z ⊢
        rw [up_ne _ _ (by omega), k17, cp_nm s _ z kd]
      have loop : ∀ (m q : Nat) (M3 : MM), q + m = n → s ≤ q → run isDi β n q = run isDi β n s → FJ o JT M M3 → M3 o 14 = nI q → M3 o 18 = nI s → M3 o 17 = nI (cp β s (q - s)) → (∀ i, i < q - s → isDi (β (s + i)) = true) → PT k E Q 0 0 Sh N G M3 123 [some (.ref o), some (.int (β s))] [] := by
        intro m
        induction m with
        | zero =>
          intro q M3 hq hsq hr hF3 k14 k18 k17 kd
          have hT3 := hT.fj hF3 (by decide)
          refine r_aload_n C 0 rfl rfl rfl rfl ?_
          refine r_aload_n C 0 rfl rfl rfl rfl ?_
          refine r_geti C rfl f_X12_106 (by assumption) rfl ?_
          rw [k14]
          refine v1_r C rfl mfX12_byteAt lk_X12_109 (by assumption) (c_byteAt hM hT3 q rfl (by omega)) ?_
          refine s1_r C rfl mfX12_isDigit lk_X12_123 (c_isDigit (if q < n then β q else -1)) ?_
          rw [if_neg (by omega), isDi_m1]
          refine r_if_eq C 178 rfl (by decide) (fun _ => ?_) (fun h => absurd rfl h)
          rw [run_stop (by omega)] at hr
          exact out q M3 hr hsq hF3 k14 k18 k17 kd
        | succ m ih =>
          intro q M3 hq hsq hr hF3 k14 k18 k17 kd
          have hT3 := hT.fj hF3 (by decide)
          refine r_aload_n C 0 rfl rfl rfl rfl ?_
          refine r_aload_n C 0 rfl rfl rfl rfl ?_
          refine r_geti C rfl f_X12_106 (by assumption) rfl ?_
          rw [k14]
          refine v1_r C rfl mfX12_byteAt lk_X12_109 (by assumption) (c_byteAt hM hT3 q rfl (by omega)) ?_
          refine s1_r C rfl mfX12_isDigit lk_X12_123 (c_isDigit (if q < n then β q else -1)) ?_
          rw [if_pos (by omega)]
          refine r_if_eq C 178 rfl (by decide) (fun h => ?_) (fun h => ?_)
          · have h := bI_0 h
            rw [run_no h] at hr
            exact out q M3 hr hsq hF3 k14 k18 k17 kd
          · have h := bI_1 h
            rw [run_yes (by omega) h] at hr
            have hdg := isDi_dg h
            have hcp := cp_le (β := β) s (q - s)
            refine r_aload_n C 0 rfl rfl rfl rfl ?_
            refine r_ldc C rfl cs_X12_129 ?_
            refine r_bi (v := nI 10) C rfl (by decide) ?_
            refine r_aload_n C 0 rfl rfl rfl rfl ?_
            refine r_geti C rfl f_X12_126 (by assumption) rfl ?_
            rw [k17]
            refine r_imul C rfl ?_
            refine r_aload_n C 0 rfl rfl rfl rfl ?_
            refine r_aload_n C 0 rfl rfl rfl rfl ?_
            refine r_geti C rfl f_X12_106 (by assumption) rfl ?_
            rw [k14]
            refine v1_r C rfl mfX12_byteAt lk_X12_109 (by assumption) (c_byteAt hM hT3 q rfl (by omega)) ?_
            rw [if_pos (by omega), hdg.1, pk_mul]
            refine r_iadd C rfl ?_
            rw [nI_add]
            refine r_bi (v := nI 48) C rfl (by decide) ?_
            refine r_isub C rfl ?_
            rw [pk_sub (by omega)]
            refine r_min C rfl lk_X12_130 ?_
            have ev : (if nI (10 * cp β s (q - s) + (48 + dg (β q)) - 48) < (100000 : Int32) then nI (10 * cp β s (q - s) + (48 + dg (β q)) - 48) else 100000) = nI (cp β s (q + 1 - s)) := by
              rw [show q + 1 - s = (q - s) + 1 by omega, cp, show s + (q - s) = q by omega, show 10 * cp β s (q - s) + (48 + dg (β q)) - 48 = 10 * cp β s (q - s) + dg (β q) by omega]
              show (if nI (10 * cp β s (q - s) + dg (β q)) < nI 100000 then nI (10 * cp β s (q - s) + dg (β q)) else nI 100000) = _
              by_cases z : 10 * cp β s (q - s) + dg (β q) < 100000
              · rw [if_pos ((nI_ltI (a := 10 * cp β s (q - s) + dg (β q)) (b := 100000) (by omega) (by omega)).mpr z), Nat.min_eq_right (by omega)]
              · rw [if_neg (fun y => z ((nI_ltI (a := 10 * cp β s (q - s) + dg (β q)) (b := 100000) (by omega) (by omega)).mp y)), Nat.min_eq_left (by omega)]
            rw [ev]
            refine r_puti C rfl f_X12_126 (by assumption) rfl rfl rfl ?_
            refine r_aload_n C 0 rfl rfl rfl rfl ?_
            refine r_dup C rfl rfl ?_
            refine r_geti C rfl f_X12_106 (by assumption) rfl ?_
            rw [up_ne _ _ (by omega), k14]
            refine r_ic (v := nI 1) C rfl (by decide) ?_
            refine r_iadd C rfl ?_
            rw [nI_add]
            refine r_puti C rfl f_X12_106 (by assumption) rfl rfl rfl ?_
            refine r_goto C 123 rfl (by decide) ?_
            refine ih (q + 1) _ (by omega) (by omega) hr ((hF3.up (by decide) _).up (by decide) _) (up_same _ _ _ _) (by rw [up_ne _ _ (by omega), up_ne _ _ (by omega)]; exact k18) (by rw [up_ne _ _ (by omega), up_same]) (fun i hi => ?_)
            by_cases e : i = q - s
            · rw [e, show s + (q - s) = q by omega]; exact h
            · exact kd i (by omega)
      refine r_aload_n C 0 rfl rfl rfl rfl ?_
      refine r_ic (v := nI 0) C rfl (by decide) ?_
      refine r_puti C rfl f_X12_126 (by assumption) rfl rfl rfl ?_
      refine loop (n - s) s _ (by omega) (Nat.le_refl _) rfl (hF2.up (by decide) _) (by rw [up_ne _ _ (by omega)]; exact g14) (by rw [up_ne _ _ (by omega)]; exact g18) (by rw [up_same, Nat.sub_self]; rfl) (fun i hi => by omega)
    have hd := bI_0 hd
    have eE : tkE β n s = s + 1 := by unfold tkE; rw [if_neg (by omega), hl, if_neg ff_t, hd, if_neg ff_t]
    have eK : tkK β n s = if β s = nI 59 then 3 else 4 := by unfold tkK; rw [if_neg (by omega), hl, if_neg ff_t, hd, if_neg ff_t]
    refine r_aload_n C 0 rfl rfl rfl rfl ?_
    refine r_dup C rfl rfl ?_
    refine r_geti C rfl f_X12_106 (by assumption) rfl ?_
    rw [g14]
    refine r_ic (v := nI 1) C rfl (by decide) ?_
    refine r_iadd C rfl ?_
    rw [nI_add]
    refine r_puti C rfl f_X12_106 (by assumption) rfl rfl rfl ?_
    refine r_aload_n C 0 rfl rfl rfl rfl ?_
    refine r_iload_n C 1 rfl rfl rfl ?_
    refine r_bi (v := nI 59) C rfl (by decide) ?_
    obtain ⟨M3, hM3⟩ : ∃ M3, M3 = up M2 o 14 (nI (s + 1)) := ⟨_, rfl⟩
    rw [← hM3]
    have hF3 : FJ o JT M M3 := by rw [hM3]; exact hF2.up (by decide) _
    have k14 : M3 o 14 = nI (s + 1) := by rw [hM3, up_same]
    have k18 : M3 o 18 = nI s := by rw [hM3, up_ne _ _ (by omega)]; exact g18
    refine r_icmp_ne C 207 rfl (by decide) (fun h => ?_) (fun h => ?_)
    · refine r_ic (v := nI 4) C rfl (by decide) ?_
      refine r_puti C rfl f_X12_116 (by assumption) rfl rfl rfl ?_
      exact fin _ _ (hF3.up (by decide) _) (by rw [up_ne _ _ (by omega), eE]; exact k14) (by rw [up_same, eK, if_neg h]) (by rw [up_ne _ _ (by omega)]; exact k18) (fun q => by rw [eK, if_neg h] at q; cases q)
    · refine r_ic (v := nI 3) C rfl (by decide) ?_
      refine r_goto C 208 rfl (by decide) ?_
      refine r_puti C rfl f_X12_116 (by assumption) rfl rfl rfl ?_
      exact fin _ _ (hF3.up (by decide) _) (by rw [up_ne _ _ (by omega), eE]; exact k14) (by rw [up_same, eK, if_pos h]) (by rw [up_ne _ _ (by omega)]; exact k18) (fun q => by rw [eK, if_pos h] at q; cases q)
  have loop : ∀ (m q : Nat) (M1 : MM), q + m = n → run isSp β n q = s → FJ o JT M M1 → M1 o 14 = nI q → PT k E Q 0 0 Sh N G M1 0 [some (.ref o), none] [] := by
    intro m
    induction m with
    | zero =>
      intro q M1 hq hr hF1 k14
      have hT1 := hT.fj hF1 (by decide)
      rw [run_stop (by omega)] at hr
      refine r_aload_n C 0 rfl rfl rfl rfl ?_
      refine r_aload_n C 0 rfl rfl rfl rfl ?_
      refine r_geti C rfl f_X12_106 (by assumption) rfl ?_
      rw [k14]
      refine v1_r C rfl mfX12_byteAt lk_X12_109 (by assumption) (c_byteAt hM hT1 q rfl (by omega)) ?_
      refine r_bi (v := nI 32) C rfl (by decide) ?_
      rw [if_neg (by omega)]
      refine r_icmp_eq C 26 rfl (by decide) (fun h => absurd h (by decide)) (fun _ => ?_)
      refine r_aload_n C 0 rfl rfl rfl rfl ?_
      refine r_aload_n C 0 rfl rfl rfl rfl ?_
      refine r_geti C rfl f_X12_106 (by assumption) rfl ?_
      rw [k14]
      refine v1_r C rfl mfX12_byteAt lk_X12_109 (by assumption) (c_byteAt hM hT1 q rfl (by omega)) ?_
      refine r_bi (v := nI 10) C rfl (by decide) ?_
      rw [if_neg (by omega)]
      refine r_icmp_ne C 39 rfl (by decide) (fun _ => ?_) (fun h => absurd h (by decide))
      exact mid M1 _ hF1 (by rw [← hr]; exact k14)
    | succ m ih =>
      intro q M1 hq hr hF1 k14
      have hT1 := hT.fj hF1 (by decide)
      have go : isSp (β q) = true → PT k E Q 0 0 Sh N G M1 26 [some (.ref o), none] [] := by
        intro h
        rw [run_yes (by omega) h] at hr
        refine r_aload_n C 0 rfl rfl rfl rfl ?_
        refine r_dup C rfl rfl ?_
        refine r_geti C rfl f_X12_106 (by assumption) rfl ?_
        rw [k14]
        refine r_ic (v := nI 1) C rfl (by decide) ?_
        refine r_iadd C rfl ?_
        rw [nI_add]
        refine r_puti C rfl f_X12_106 (by assumption) rfl rfl rfl ?_
        refine r_goto C 0 rfl (by decide) ?_
        exact ih (q + 1) _ (by omega) hr (hF1.up (by decide) _) (up_same _ _ _ _)
      refine r_aload_n C 0 rfl rfl rfl rfl ?_
      refine r_aload_n C 0 rfl rfl rfl rfl ?_
      refine r_geti C rfl f_X12_106 (by assumption) rfl ?_
      rw [k14]
      refine v1_r C rfl mfX12_byteAt lk_X12_109 (by assumption) (c_byteAt hM hT1 q rfl (by omega)) ?_
      refine r_bi (v := nI 32) C rfl (by decide) ?_
      rw [if_pos (by omega)]
      refine r_icmp_eq C 26 rfl (by decide) (fun h => go (decide_eq_true (Or.inl h))) (fun h1 => ?_)
      refine r_aload_n C 0 rfl rfl rfl rfl ?_
      refine r_aload_n C 0 rfl rfl rfl rfl ?_
      refine r_geti C rfl f_X12_106 (by assumption) rfl ?_
      rw [k14]
      refine v1_r C rfl mfX12_byteAt lk_X12_109 (by assumption) (c_byteAt hM hT1 q rfl (by omega)) ?_
      refine r_bi (v := nI 10) C rfl (by decide) ?_
      rw [if_pos (by omega)]
      refine r_icmp_ne C 39 rfl (by decide) (fun h2 => ?_) (fun h => go (decide_eq_true (Or.inr h)))
      rw [run_no (decide_eq_false (fun z => z.elim h1 h2))] at hr
      exact mid M1 _ hF1 (by rw [← hr]; exact k14)
  exact loop (n - σ.2.2.2.2) σ.2.2.2.2 M (by omega) hs.symm FJ.rfl hp
end RREAD
