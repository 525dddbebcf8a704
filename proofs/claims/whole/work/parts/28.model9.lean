section MODEL9
variable {E : VE} {Sh : Nat → SE} {N : Nat} {G : Bool} {M : MM} {o r : Nat} {R : Row}
theorem sit_keep8 (g f : Int32) (dp mn l : Nat) (R : Row) {j : Nat} (h : j < 13) : sitR g f dp mn l R j = R j := by
  simp only [sitR]
  rw [if_neg (by omega)]
theorem fall_8 (dp mn : Nat) (R : Row) : fallR dp mn R 8 = R 8 := by
  simp only [fallR]
  cases lowN R 0 mn with
  | none => rfl
  | some l => simp [cutR, upd]
theorem weekW_8 (g f sk dr air : Int32) (fr : Bool) (dp mn : Nat) (R : Row) : weekW g f sk dr air fr dp mn R 8 = R 8 := by
  rw [weekW, fall_8, sit_keep8 _ _ _ _ _ _ (by decide), crack_lo _ _ _ _ _ _ _ (by decide), dryR, dryR_keep _ _ _ _ _ (by decide) (by decide), moveR, moveR_keep _ _ _ _ _ (by decide), come_keep _ _ _ _ (by decide) (by decide)]
/-- the week's number among the wk that are told -/
def wkRain (M : MM) (o wk ps : Nat) : Int32 := if wk = 0 then 0 else M (o + 5) (ps % wk)
def wkAir (M : MM) (o wk ps : Nat) : Int32 := if wk = 0 then nI 20 else M (o + 6) (ps % wk)
def wkFrost (M : MM) (o wk ps : Nat) : Bool := if wk = 0 then false else decide (M (o + 7) (ps % wk) = nI 1)
theorem s_week (hM : MO Sh N o) {x : Int32} (dp mn sh wk ps : Nat) (hW : WF R dp mn) (hsh : R 3 = nI sh) (hs9 : sh ≤ 9) (hps : R 8 = nI ps) (hp : ps < 2 ^ 31) (hwk : M (o + 8) 0 = nI wk) (hwk30 : wk ≤ 30) (hx : x = nI r) (hr : r < 36) :
    Con E mX12_week 6 0 0 [.ref o, .int x] Sh N G (mset M o r R) (PR Sh N (fun v M' => v = none ∧ ∃ B F : Nat → Int32, M' = mset (aset (aset M (o + 2) B) (o + 3) F) o r (weekR (grn M o) (ful M o) (shr M o) (wkRain M o wk ps) (wkAir M o wk ps) (wkFrost M o wk ps) dp mn R))) nox := by
  subst hx
  have hW' := hW
  obtain ⟨w0, w1, w2, w3, w4⟩ := hW
  have h0 := hM.1
  have a2 := hM.ar 1 rfl
  have a5 := hM.ar 4 rfl
  have a6 := hM.ar 5 rfl
  have a7 := hM.ar 6 rfl
  have a8 := hM.ar 7 rfl
  refine Con.ofQ (by decide +kernel) (by simp [Value.category]) (Nat.le_of_ble_eq_true rfl) (fun k C0 Q hQ => ?_)
  have C : CK k E mX12_week kdX12_week 6 0 0 := ⟨C0, kdX12_week_ok⟩
  -- kI: the week's number, or -1
  obtain ⟨kI, hkI⟩ : ∃ kI : Int32, kI = (if wk = 0 then -1 else nI (ps % wk)) := ⟨_, rfl⟩
  have k143 : ∀ (R9 : Row) (B F : Nat → Int32) (v2 v3 : Option Value), R9 8 = R 8 → R9 = (if mn = 0 then R else weekW (grn M o) (ful M o) (shr M o) (wkRain M o wk ps) (wkAir M o wk ps) (wkFrost M o wk ps) dp mn R) → PT k E Q 0 0 Sh N G (mset (aset (aset M (o + 2) B) (o + 3) F) o r R9) 143 [some (.ref o), some (.int (nI r)), v2, v3] [] := by
    intro R9 B F v2 v3 h8 hR9
    refine r_aload_n C 0 rfl rfl rfl rfl ?_
    refine r_iload_n C 1 rfl rfl rfl ?_
    refine r_bi (v := nI 8) C rfl (by decide) ?_
    refine r_aload_n C 0 rfl rfl rfl rfl ?_
    refine r_iload_n C 1 rfl rfl rfl ?_
    refine r_bi (v := nI 8) C rfl (by decide) ?_
    refine v2_r C rfl mfX12_of lk_X12_238 (by assumption) (s_of hM 8 rfl rfl hr (by decide)) ?_
    refine r_top (R 8) h8 ?_
    refine r_ic (v := nI 1) C rfl (by decide) ?_
    refine r_iadd C rfl ?_
    refine v3_v C rfl mfX12_put lk_X12_175 (by assumption) (s_put hM 8 rfl rfl hr (by decide)) ?_
    exact q_vret C hQ rfl rfl ⟨rfl, rfl, rfl, B, F, by rw [weekR, ← hR9]⟩
  have k58 : ∀ v3 : Option Value, PT k E Q 0 0 Sh N G (mset (aset M (o + 2) (seeF R (M (o + 2)) 144)) o r R) 58 [some (.ref o), some (.int (nI r)), some (.int kI), v3] [] := by
    intro v3
    obtain ⟨M1, hM1⟩ : ∃ M1, M1 = aset M (o + 2) (seeF R (M (o + 2)) 144) := ⟨_, rfl⟩
    rw [← hM1]
    have e2 : M1 (o + 2) = seeF R (M (o + 2)) 144 := by rw [hM1, aset_own]
    have ex : ∀ a, a ≠ o + 2 → M1 a = M a := fun a h => by rw [hM1, aset_ne _ _ h]
    refine r_aload_n C 0 rfl rfl rfl rfl ?_
    refine r_iload_n C 1 rfl rfl rfl ?_
    refine r_ic (v := nI 1) C rfl (by decide) ?_
    refine v2_r C rfl mfX12_of lk_X12_238 (by assumption) (s_of hM 1 rfl rfl hr (by decide)) ?_
    refine r_top (nI mn) w3 ?_
    refine r_if_le C 143 rfl (by decide) (fun h => ?_) (fun h => ?_)
    · have h := le_nI (a := mn) (b := 0) (by omega) (by omega) h
      refine r_eqM ?_ (k143 R (seeF R (M (o + 2)) 144) (M1 (o + 3)) (some (.int kI)) v3 rfl (by rw [if_pos (by omega)]))
      rw [← hM1, aset_self]
    have hmn : 1 ≤ mn := by
      rcases Nat.eq_zero_or_pos mn with q | q
      · subst q; exact absurd (Int32.le_refl _) h
      · exact q
    have hneg : ∀ i : Nat, i < 1000 → ¬ nI i = -1 := by
      intro i hi q
      have q2 := congrArg Int32.toInt q
      rw [nI_toInt (by omega)] at q2
      have : (-1 : Int32).toInt = -1 := by decide
      omega
    have hmod : wk ≠ 0 → ps % wk < 30 := fun q => by have := Nat.mod_lt ps (Nat.pos_of_ne_zero q); omega
    obtain ⟨R1, hR1⟩ : ∃ R1, R1 = comeR dp mn (wkRain M o wk ps) R := ⟨_, rfl⟩
    have hW1 : WF R1 dp mn := ⟨by rw [hR1, come_keep _ _ _ _ (by decide) (by decide)]; exact w0, w1, w2, by rw [hR1, come_keep _ _ _ _ (by decide) (by decide)]; exact w3, w4⟩
    obtain ⟨R2, hR2⟩ : ∃ R2, R2 = moveR (fun j => R1 (37 + j)) dp mn R1 := ⟨_, rfl⟩
    have hW2 : WF R2 dp mn := ⟨by rw [hR2, moveR, moveR_keep _ _ _ _ _ (by decide)]; exact hW1.1, w1, w2, by rw [hR2, moveR, moveR_keep _ _ _ _ _ (by decide)]; exact hW1.2.2.2.1, w4⟩
    obtain ⟨R3, hR3⟩ : ∃ R3, R3 = dryR (wkAir M o wk ps) dp mn R2 := ⟨_, rfl⟩
    have hW3 : WF R3 dp mn := ⟨by rw [hR3, dryR, dryR_keep _ _ _ _ _ (by decide) (by decide)]; exact hW2.1, w1, w2, by rw [hR3, dryR, dryR_keep _ _ _ _ _ (by decide) (by decide)]; exact hW2.2.2.2.1, w4⟩
    obtain ⟨R4, hR4⟩ : ∃ R4, R4 = crackR (wkFrost M o wk ps) (shr M o) (fun j => R (37 + j)) dp mn 0 R3 := ⟨_, rfl⟩
    have hW4 : WF R4 dp mn := ⟨by rw [hR4, crack_lo _ _ _ _ _ _ _ (by decide)]; exact hW3.1, w1, w2, by rw [hR4, crack_lo _ _ _ _ _ _ _ (by decide)]; exact hW3.2.2.2.1, w4⟩
    have hweek : fallR dp mn (sitR (grn M o) (ful M o) dp mn 0 R4) = weekW (grn M o) (ful M o) (shr M o) (wkRain M o wk ps) (wkAir M o wk ps) (wkFrost M o wk ps) dp mn R := by
      rw [weekW, hR4, hR3, hR2, hR1]
    obtain ⟨F, hF⟩ : ∃ F, F = seeF R1 (M1 (o + 3)) 144 := ⟨_, rfl⟩
    obtain ⟨M2, hM2⟩ : ∃ M2, M2 = aset M1 (o + 3) F := ⟨_, rfl⟩
    have ex2 : ∀ a, a ≠ o + 2 → a ≠ o + 3 → M2 a = M a := fun a h h' => by rw [hM2, aset_ne _ _ h', ex a h]
    have hg2 : grn M2 o = grn M o := by rw [grn, grn, ex2 _ (by omega) (by omega)]
    have hf2 : ful M2 o = ful M o := by rw [ful, ful, ex2 _ (by omega) (by omega)]
    have hs2 : shr M2 o = shr M o := by rw [shr, shr, ex2 _ (by omega) (by omega)]
    have hb2 : ∀ j, j < 144 → M2 (o + 2) j = R (37 + j) := fun j hj => by rw [hM2, aset_ne _ _ (by omega), e2, seeF_in _ _ hj]
    have k135 : ∀ z : Int32, z = bI (wkFrost M o wk ps) → PT k E Q 0 0 Sh N G (mset M2 o r R3) 135 [some (.ref o), some (.int (nI r)), some (.int kI), v3] [.int z, .int (nI r), .ref o] := by
      intro z hz
      subst hz
      refine v2_v C rfl mfX12_crack lk_X12_310 (by assumption) (s_crack hM (wkFrost M o wk ps) dp mn hW3 rfl hr) ?_
      rw [hs2, crackR_w hb2, ← hR4]
      refine r_aload_n C 0 rfl rfl rfl rfl ?_
      refine r_iload_n C 1 rfl rfl rfl ?_
      refine v1_v C rfl mfX12_sit lk_X12_314 (by assumption) (s_sit hM dp mn hW4 rfl hr) ?_
      rw [hg2, hf2, hweek, hM2, hM1]
      exact k143 _ _ _ _ _ (weekW_8 _ _ _ _ _ _ _ _ _) (by rw [if_neg (by omega)])
    have k110 : ∀ z : Int32, z = wkAir M o wk ps → PT k E Q 0 0 Sh N G (mset M2 o r R2) 110 [some (.ref o), some (.int (nI r)), some (.int kI), v3] [.int z, .int (nI r), .ref o] := by
      intro z hz
      subst hz
      refine v2_v C rfl mfX12_dry lk_X12_307 (by assumption) (s_dry hM dp mn hW2 rfl hr) ?_
      refine r_aload_n C 0 rfl rfl rfl rfl ?_
      refine r_iload_n C 1 rfl rfl rfl ?_
      refine r_iload_n C 2 rfl rfl rfl ?_
      refine r_ic (v := (-1)) C rfl (by decide) ?_
      rw [← hR3]
      refine r_icmp_eq C 134 rfl (by decide) (fun h2 => ?_) (fun h2 => ?_)
      · refine r_ic (v := nI 0) C rfl (by decide) ?_
        refine k135 _ ?_
        by_cases q : wk = 0
        · simp only [wkFrost, if_pos q]; rfl
        · rw [hkI, if_neg q] at h2
          exact absurd h2 (hneg _ (by have := hmod q; omega))
      · have q : wk ≠ 0 := fun q => h2 (by rw [hkI, if_pos q])
        have hk2 : kI = nI (ps % wk) := by rw [hkI, if_neg q]
        have hmod := hmod q
        refine r_aload_n C 0 rfl rfl rfl rfl ?_
        refine r_getv C rfl f_X12_28 (by assumption) rfl ?_
        refine r_iload_n C 2 rfl rfl rfl ?_
        refine r_iald C rfl (by assumption) (ps % wk) hk2 (by omega) (by decide) ?_
        refine r_ic (v := nI 1) C rfl (by decide) ?_
        refine r_icmp_ne C 134 rfl (by decide) (fun h3 => ?_) (fun h3 => ?_)
        · refine r_ic (v := nI 0) C rfl (by decide) ?_
          refine k135 _ ?_
          rw [mset_cell (by omega), ex2 _ (by omega) (by omega)] at h3
          simp only [wkFrost, if_neg q, decide_eq_false h3]; rfl
        · refine r_ic (v := nI 1) C rfl (by decide) ?_
          refine r_goto C 135 rfl (by decide) ?_
          refine k135 _ ?_
          rw [mset_cell (by omega), ex2 _ (by omega) (by omega)] at h3
          simp only [wkFrost, if_neg q, decide_eq_true h3]; rfl
    have k84 : ∀ z : Int32, z = wkRain M o wk ps → PT k E Q 0 0 Sh N G (mset M1 o r R) 84 [some (.ref o), some (.int (nI r)), some (.int kI), v3] [.int z, .int (nI r), .ref o] := by
      intro z hz
      subst hz
      refine v2_v C rfl mfX12_comeIn lk_X12_301 (by assumption) (s_comeIn hM dp mn sh hW' hmn hsh hs9 rfl hr) ?_
      rw [← hR1]
      refine r_aload_n C 0 rfl rfl rfl rfl ?_
      refine r_iload_n C 1 rfl rfl rfl ?_
      refine v1_v C rfl mfX12_move lk_X12_304 (by assumption) (s_move hM dp mn hW1 rfl hr) ?_
      refine r_aload_n C 0 rfl rfl rfl rfl ?_
      refine r_iload_n C 1 rfl rfl rfl ?_
      refine r_iload_n C 2 rfl rfl rfl ?_
      refine r_ic (v := (-1)) C rfl (by decide) ?_
      rw [← hR2, ← hF, ← hM2]
      refine r_icmp_ne C 104 rfl (by decide) (fun h2 => ?_) (fun h2 => ?_)
      · have q : wk ≠ 0 := fun q => h2 (by rw [hkI, if_pos q])
        have hk2 : kI = nI (ps % wk) := by rw [hkI, if_neg q]
        have hmod := hmod q
        refine r_aload_n C 0 rfl rfl rfl rfl ?_
        refine r_getv C rfl f_X12_25 (by assumption) rfl ?_
        refine r_iload_n C 2 rfl rfl rfl ?_
        refine r_iald C rfl (by assumption) (ps % wk) hk2 (by omega) (by decide) ?_
        refine k110 _ ?_
        rw [mset_cell (by omega), ex2 _ (by omega) (by omega)]
        simp only [wkAir, if_neg q]
      · refine r_bi (v := nI 20) C rfl (by decide) ?_
        refine r_goto C 110 rfl (by decide) ?_
        refine k110 _ ?_
        by_cases q : wk = 0
        · simp only [wkAir, if_pos q]
        · rw [hkI, if_neg q] at h2
          exact absurd h2 (hneg _ (by have := hmod q; omega))
    refine r_aload_n C 0 rfl rfl rfl rfl ?_
    refine r_iload_n C 1 rfl rfl rfl ?_
    refine r_iload_n C 2 rfl rfl rfl ?_
    refine r_ic (v := (-1)) C rfl (by decide) ?_
    refine r_icmp_ne C 78 rfl (by decide) (fun h2 => ?_) (fun h2 => ?_)
    · have q : wk ≠ 0 := fun q => h2 (by rw [hkI, if_pos q])
      have hk2 : kI = nI (ps % wk) := by rw [hkI, if_neg q]
      have hmod := hmod q
      refine r_aload_n C 0 rfl rfl rfl rfl ?_
      refine r_getv C rfl f_X12_22 (by assumption) rfl ?_
      refine r_iload_n C 2 rfl rfl rfl ?_
      refine r_iald C rfl (by assumption) (ps % wk) hk2 (by omega) (by decide) ?_
      refine k84 _ ?_
      rw [mset_cell (by omega), ex _ (by omega)]
      simp only [wkRain, if_neg q]
    · refine r_ic (v := nI 0) C rfl (by decide) ?_
      refine r_goto C 84 rfl (by decide) ?_
      refine k84 _ ?_
      by_cases q : wk = 0
      · simp only [wkRain, if_pos q]; rfl
      · rw [hkI, if_neg q] at h2
        exact absurd h2 (hneg _ (by have := hmod q; omega))
  have loop : ∀ n i : Nat, i ≤ 144 → 144 - i < n → PT k E Q 0 0 Sh N G (mset (aset M (o + 2) (seeF R (M (o + 2)) i)) o r R) 30 [some (.ref o), some (.int (nI r)), some (.int kI), some (.int (nI i))] [] := by
    intro n
    induction n with
    | zero => intro i _ h; omega
    | succ n ih =>
      intro i hi hn
      refine r_iload_n C 3 rfl rfl rfl ?_
      refine r_si (v := nI 144) C rfl (by decide) ?_
      refine r_icmp_ge C 58 rfl (by decide) (fun h => ?_) (fun h => ?_)
      · have h := le_nI (by omega) (by omega) h
        have e : i = 144 := by omega
        subst e
        exact k58 _
      · have h := nle_nI (by omega) (by omega) h
        refine r_aload_n C 0 rfl rfl rfl rfl ?_
        refine r_getv C rfl f_X12_13 (by assumption) rfl ?_
        refine r_iload_n C 3 rfl rfl rfl ?_
        refine r_aload_n C 0 rfl rfl rfl rfl ?_
        refine r_iload_n C 1 rfl rfl rfl ?_
        refine r_bi (v := nI 37) C rfl (by decide) ?_
        refine r_iload_n C 3 rfl rfl rfl ?_
        refine r_iadd C rfl ?_
        refine v2_r C rfl mfX12_of lk_X12_238 (by assumption) (s_of hM (37 + i) rfl (by rw [nI_add]) hr (by omega)) ?_
        refine r_iast C rfl (by assumption) (i) rfl (by omega) (by decide) ?_
        refine r_iinc (c := nI 1) C rfl rfl (by decide) ?_
        refine r_goto C 30 rfl (by decide) ?_
        refine r_eqM ?_ (r_eqL ?_ (ih (i + 1) (by omega) (by omega)))
        · rw [aset_up _ _ _ _ _ _ _ _ (by omega), seeF_up]
        · first | rfl | (simp only [sm, add3, nI_add, Int32.add_zero, Int32.zero_add]; rfl)
  have k27 : PT k E Q 0 0 Sh N G (mset M o r R) 27 [some (.ref o), some (.int (nI r)), none, none] [.int kI] := by
    refine r_istore_n C 2 rfl rfl (by exact Nat.le_of_ble_eq_true rfl) ?_
    refine r_ic (v := nI 0) C rfl (by decide) ?_
    refine r_istore_n C 3 rfl rfl (by exact Nat.le_of_ble_eq_true rfl) ?_
    refine r_eqM ?_ (r_eqL ?_ (loop 145 0 (by omega) (by omega)))
    · rw [show seeF R (M (o + 2)) 0 = M (o + 2) from funext (fun j => if_neg (Nat.not_lt_zero j)), aset_self]
    · first | rfl | (simp only [sm, add3, nI_add, Int32.add_zero, Int32.zero_add]; rfl)
  refine r_aload_n C 0 rfl rfl rfl rfl ?_
  refine r_getv C rfl f_X12_31 (by assumption) rfl ?_
  refine r_ic (v := nI 0) C rfl (by decide) ?_
  refine r_iald C rfl (by assumption) (0) rfl (by decide) (by decide) ?_
  refine r_top (nI wk) (by rw [mset_cell (by omega)]; exact hwk) ?_
  refine r_if_ne C 13 rfl (by decide) (fun h => ?_) (fun h => ?_)
  · have q : wk ≠ 0 := fun q => h (by rw [q]; rfl)
    refine r_aload_n C 0 rfl rfl rfl rfl ?_
    refine r_iload_n C 1 rfl rfl rfl ?_
    refine r_bi (v := nI 8) C rfl (by decide) ?_
    refine v2_r C rfl mfX12_of lk_X12_238 (by assumption) (s_of hM 8 rfl rfl hr (by decide)) ?_
    refine r_top (nI ps) hps ?_
    refine r_aload_n C 0 rfl rfl rfl rfl ?_
    refine r_getv C rfl f_X12_31 (by assumption) rfl ?_
    refine r_ic (v := nI 0) C rfl (by decide) ?_
    refine r_iald C rfl (by assumption) (0) rfl (by decide) (by decide) ?_
    refine r_top (nI wk) (by rw [mset_cell (by omega)]; exact hwk) ?_
    refine r_irem C rfl (fun z => q ((nI_eq (b := 0) (by omega) (by omega)).mp z)) ?_
    refine r_top kI (by rw [pk_rem hp (by omega) (by omega), hkI, if_neg q]) ?_
    exact k27
  · have q : wk = 0 := (nI_eq (b := 0) (by omega) (by omega)).mp h
    refine r_ic (v := (-1)) C rfl (by decide) ?_
    refine r_goto C 27 rfl (by decide) ?_
    refine r_top kI (by rw [hkI, if_pos q]) ?_
    exact k27
end MODEL9
