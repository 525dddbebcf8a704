section WEATHER5
variable {E : VE} {Sh : Nat → SE} {N : Nat} {G : Bool} {M : MM} {w yd t : Nat} {R : Row}
theorem crackR_w2 {fr : Bool} {sk : Int32} {u u' : Nat → Int32} {dp l : Nat} {R : Row} (h : ∀ j, j < 6 * l → u j = u' j) : crackR fr sk u dp l 0 R = crackR fr sk u' dp l 0 R := by
  funext j
  simp only [crackR]
  by_cases q : 181 ≤ j ∧ (j - 181) / 6 < l
  · rw [h (j - 181) (by omega)]
  · rw [if_neg (by omega), if_neg (by omega)]
/-- a week, up to where layers fall -/
def weekS (g f sk dr air : Int32) (fr : Bool) (dp mn : Nat) (R : Row) : Row :=
  sitR g f dp mn 0 (crackR fr sk (fun j => R (37 + j)) dp mn 0 (dryR air dp mn (moveR (fun j => comeR dp mn dr R (37 + j)) dp mn (comeR dp mn dr R))))
theorem weekW_S (g f sk dr air : Int32) (fr : Bool) (dp mn : Nat) (R : Row) : weekW g f sk dr air fr dp mn R = fallR dp mn (weekS g f sk dr air fr dp mn R) := rfl
theorem wat_up (R : Row) (dp l n : Nat) {j : Nat} (v : Int32) (h : j < 37) : wat (upd R j v) dp l n = wat R dp l n := by
  simp only [wat]
  exact sm_cong (fun i _ => sm_cong (fun c _ => by simp only [upd]; rw [if_neg (by omega)]))
theorem cut_up (R : Row) (dp mn l : Nat) {j : Nat} (v : Int32) (h : j < 37) (h1 : j ≠ 1) (h2 : j ≠ 12) : cutR dp mn l (upd R j v) = upd (cutR dp mn l R) j v := by
  have hw := wat_up R dp l (mn - l) v h
  funext i
  show (if i = 12 then upd R j v 12 + wat (upd R j v) dp l (mn - l) else if i = 1 then nI l else upd R j v i) = (if i = j then v else if i = 12 then R 12 + wat R dp l (mn - l) else if i = 1 then nI l else R i)
  rw [hw]
  simp only [upd]
  by_cases e12 : i = 12
  · rw [if_pos e12, if_neg (by omega), if_neg (by omega), if_pos e12]
  · rw [if_neg e12]
    by_cases e1 : i = 1
    · rw [if_pos e1, if_neg (by omega), if_neg e12, if_pos e1]
    · rw [if_neg e1]
      by_cases ej : i = j
      · rw [if_pos ej, if_pos ej]
      · rw [if_neg ej, if_neg ej, if_neg e12, if_neg e1]
theorem anyB_cong {p q : Nat → Bool} : ∀ {n : Nat}, (∀ i, i < n → p i = q i) → anyB p n = anyB q n
  | 0, _ => rfl
  | n + 1, h => by rw [anyB, anyB, anyB_cong (fun i hi => h i (by omega)), h n (by omega)]
theorem allB_cong {p q : Nat → Bool} : ∀ {n : Nat}, (∀ i, i < n → p i = q i) → allB p n = allB q n
  | 0, _ => rfl
  | n + 1, h => by rw [allB, allB, allB_cong (fun i hi => h i (by omega)), h n (by omega)]
theorem why_cong {R R' : Row} {dp l : Nat} (h : ∀ c, c < dp → R (181 + (6 * l + c)) = R' (181 + (6 * l + c)) ∧ R (37 + (6 * l + c)) = R' (37 + (6 * l + c))) : whyR R dp l = whyR R' dp l := by
  simp only [whyR]
  rw [anyB_cong (fun c hc => by rw [(h c hc).1]), allB_cong (fun c hc => by rw [(h c hc).2]), anyB_cong (p := fun c => decide (R (181 + (6 * l + c)) &&& nI 1 = nI 1)) (fun c hc => by rw [(h c hc).1])]
theorem why_up (R : Row) (dp l : Nat) {j : Nat} (v : Int32) (h : j < 37) : whyR (upd R j v) dp l = whyR R dp l :=
  why_cong (fun c _ => ⟨by simp only [upd]; rw [if_neg (by omega)], by simp only [upd]; rw [if_neg (by omega)]⟩)
theorem low_up (R : Row) {j : Nat} (v : Int32) (h : j < 13) : ∀ (n l : Nat), lowN (upd R j v) l n = lowN R l n
  | 0, _ => rfl
  | n + 1, l => by
    have e : upd R j v (13 + l) = R (13 + l) := by simp only [upd]; rw [if_neg (by omega)]
    rw [lowN, lowN, low_up R v h n (l + 1), e]
theorem upd_comm (f : Nat → Int32) {i j : Nat} (x y : Int32) (h : i ≠ j) : upd (upd f i x) j y = upd (upd f j y) i x := by
  funext q
  simp only [upd]
  by_cases e : q = i <;> by_cases e2 : q = j
  · omega
  · rw [if_neg e2, if_pos e, if_pos e]
  · rw [if_pos e2, if_neg e, if_pos e2]
  · rw [if_neg e2, if_neg e, if_neg e, if_neg e2]
/-- the yard's week -/
def yRain (M : MM) (yd wk ps : Nat) : Int32 := if wk = 0 then 0 else M (yd + 3) (3 * (ps % wk))
def yAir (M : MM) (yd wk ps : Nat) : Int32 := if wk = 0 then nI 20 else M (yd + 3) (3 * (ps % wk) + 1)
def yFrost (M : MM) (yd wk ps : Nat) : Bool := if wk = 0 then false else decide (M (yd + 3) (3 * (ps % wk) + 2) = nI 1)
theorem t_pass (hA : WA Sh N w yd) (hT : TA Sh N t yd) (hdis : t + 3 ≤ w ∨ w + 4 ≤ t) (dp mn sh wk ps : Nat) (hW : WF R dp mn) (h7 : R 7 = 0 ∨ R 7 = 1) (hsh : R 3 = nI sh) (hs9 : sh ≤ 9) (hps : R 8 = nI ps) (hp : ps < 2 ^ 31) (hwk : M yd 5 = nI wk) (hwk30 : wk ≤ 30) :
    Con E mX9_pass 4 0 0 [.ref t, .ref w] Sh N G (wset M w R) (PR Sh N (fun v M' => v = some (.int (bI (lowN (weekS (M yd 8) (M yd 6) (M yd 7) (yRain M yd wk ps) (yAir M yd wk ps) (yFrost M yd wk ps) dp mn R) 0 mn).isSome)) ∧ ∃ A S : Nat → Int32, M' = wset (aset (aset M (t + 1) A) (t + 2) S) w (weekR (M yd 8) (M yd 6) (M yd 7) (yRain M yd wk ps) (yAir M yd wk ps) (yFrost M yd wk ps) dp mn R))) nox := by
  have hW' := hW
  obtain ⟨w0, w1, w2, w3, w4⟩ := hW
  have hA' := hA
  have hT' := hT
  obtain ⟨a0, a1, a2, a3, ⟨b0, b1, b2, b3⟩, a5⟩ := hA
  obtain ⟨t0, t1, t2, t3⟩ := hT
  refine Con.ofQ (by decide +kernel) (by simp [Value.category]) (Nat.le_of_ble_eq_true rfl) (fun k C0 Q hQ => ?_)
  have C : CK k E mX9_pass kdX9_pass 4 0 0 := ⟨C0, kdX9_pass_ok⟩
  have k83 : ∀ (dr air : Int32) (fr : Bool) (v5 : Option Value), dr = yRain M yd wk ps → air = yAir M yd wk ps → fr = yFrost M yd wk ps → PT k E Q 0 0 Sh N G (wset M w R) 83 [some (.ref t), some (.ref w), some (.int dr), some (.int air), some (.int (bI fr)), v5] [] := by
    intro dr air fr v5 hdr hair hfr
    subst hdr; subst hair; subst hfr
    generalize yRain M yd wk ps = dr at hQ ⊢
    generalize yAir M yd wk ps = air at hQ ⊢
    generalize yFrost M yd wk ps = fr at hQ ⊢
    refine r_aload_n C 1 rfl rfl rfl rfl ?_
    refine r_getv C rfl f_X9_42 (by assumption) rfl ?_
    refine r_ic (v := nI 0) C rfl (by decide) ?_
    refine r_aload_n C 0 rfl rfl rfl rfl ?_
    refine r_getv C rfl f_X9_9 (by assumption) rfl ?_
    refine r_ic (v := nI 0) C rfl (by decide) ?_
    refine r_aload_n C 1 rfl rfl rfl rfl ?_
    refine r_geti C rfl f_X9_45 (by assumption) rfl ?_
    refine r_top _ (wg_5 _ _ _) ?_
    refine r_top (nI mn) w3 ?_
    refine r_bi (v := nI 6) C rfl (by decide) ?_
    refine r_imul C rfl ?_
    refine r_acopy C 0 0 (6 * mn) rfl lkac_X9_48 a1 t1 rfl rfl (by rw [pk_mul, Nat.mul_comm]) (by omega) (by omega) (by decide) (by decide) ?_
    rw [wset_aset _ _ _ _ _ (by omega), wset_cell M R (a := t + 1) (by omega)]
    obtain ⟨A, hAe⟩ : ∃ A, A = va_cpy (wset M w R (w + 1)) (M (t + 1)) 0 0 (6 * mn) := ⟨_, rfl⟩
    have hAj : ∀ j, j < 6 * mn → A j = R (37 + j) := fun j hj => by rw [hAe, cpy_lo hj, wg_w M w R (by omega)]
    rw [← hAe]
    obtain ⟨M1, hM1⟩ : ∃ M1, M1 = aset M (t + 1) A := ⟨_, rfl⟩
    rw [← hM1]
    refine r_aload_n C 0 rfl rfl rfl rfl ?_
    refine r_aload_n C 1 rfl rfl rfl rfl ?_
    refine r_iload_n C 2 rfl rfl rfl ?_
    refine v2_v C rfl mfX9_wet lk_X9_54 (by assumption) (t_wet hA' hT' dp mn sh hW' hsh hs9) ?_
    obtain ⟨R1, hR1⟩ : ∃ R1, R1 = (if mn = 0 then R else comeR dp mn dr R) := ⟨_, rfl⟩
    rw [← hR1]
    have hk1 : ∀ j, j < 37 → j ≠ 11 → R1 j = R j := by
      intro j h1 h2
      rw [hR1]
      split
      · rfl
      · exact come_keep _ _ _ _ h1 h2
    have hW1 : WF R1 dp mn := ⟨(hk1 0 (by decide) (by decide)).trans w0, w1, w2, (hk1 1 (by decide) (by decide)).trans w3, w4⟩
    refine r_aload_n C 0 rfl rfl rfl rfl ?_
    refine r_aload_n C 1 rfl rfl rfl rfl ?_
    refine v1_v C rfl mfX9_move lk_X9_58 (by assumption) (t_move hA' hT' hdis dp mn hW1) ?_
    obtain ⟨R2, hR2⟩ : ∃ R2, R2 = moveR (fun j => R1 (37 + j)) dp mn R1 := ⟨_, rfl⟩
    rw [← hR2]
    have hk2 : ∀ j, j < 37 → R2 j = R1 j := fun j h => by rw [hR2, moveR, moveR_keep _ _ _ _ _ h]
    have hW2 : WF R2 dp mn := ⟨(hk2 0 (by decide)).trans hW1.1, w1, w2, (hk2 1 (by decide)).trans hW1.2.2.2.1, w4⟩
    generalize va_cpy (wset M1 w R1 (w + 1)) (M1 (t + 2)) 0 0 (6 * mn) = S
    obtain ⟨M2, hM2⟩ : ∃ M2, M2 = aset M1 (t + 2) S := ⟨_, rfl⟩
    rw [← hM2]
    have ex2 : ∀ a, a ≠ t + 1 → a ≠ t + 2 → M2 a = M a := fun a h h' => by rw [hM2, aset_ne _ _ h', hM1, aset_ne _ _ h]
    have e1 : M2 (t + 1) = A := by rw [hM2, aset_ne _ _ (by omega), hM1, aset_own]
    have ey : M2 yd = M yd := ex2 yd (by omega) (by omega)
    refine r_aload_n C 0 rfl rfl rfl rfl ?_
    refine r_aload_n C 1 rfl rfl rfl rfl ?_
    refine r_iload_n C 3 rfl rfl rfl ?_
    refine v2_v C rfl mfX9_dry lk_X9_62 (by assumption) (t_dry hA' hT' dp mn hW2) ?_
    obtain ⟨R3, hR3⟩ : ∃ R3, R3 = dryR air dp mn R2 := ⟨_, rfl⟩
    rw [← hR3]
    have hk3 : ∀ j, j < 37 → j ≠ 12 → R3 j = R2 j := fun j h h' => by rw [hR3, dryR, dryR_keep _ _ _ _ _ h h']
    have hW3 : WF R3 dp mn := ⟨(hk3 0 (by decide) (by decide)).trans hW2.1, w1, w2, (hk3 1 (by decide) (by decide)).trans hW2.2.2.2.1, w4⟩
    refine r_aload_n C 0 rfl rfl rfl rfl ?_
    refine r_aload_n C 1 rfl rfl rfl rfl ?_
    refine r_iload C rfl rfl ?_
    refine v2_v C rfl mfX9_crackAll lk_X9_65 (by assumption) (t_crackAll hA' hT' hdis fr dp mn hW3) ?_
    rw [e1, ey, crackR_w2 hAj]
    obtain ⟨R4, hR4⟩ : ∃ R4, R4 = crackR fr (M yd 7) (fun j => R (37 + j)) dp mn 0 R3 := ⟨_, rfl⟩
    rw [← hR4]
    have hk4 : ∀ j, j < 181 → R4 j = R3 j := fun j h => by rw [hR4, crack_lo _ _ _ _ _ _ _ h]
    have hW4 : WF R4 dp mn := ⟨(hk4 0 (by decide)).trans hW3.1, w1, w2, (hk4 1 (by decide)).trans hW3.2.2.2.1, w4⟩
    have hR7 : R4 7 = 0 ∨ R4 7 = 1 := by
      rw [hk4 7 (by decide), hk3 7 (by decide) (by decide), hk2 7 (by decide), hk1 7 (by decide) (by decide)]
      exact h7
    have hR8 : R4 8 = R 8 := by rw [hk4 8 (by decide), hk3 8 (by decide) (by decide), hk2 8 (by decide), hk1 8 (by decide) (by decide)]
    refine r_aload_n C 0 rfl rfl rfl rfl ?_
    refine r_aload_n C 1 rfl rfl rfl rfl ?_
    refine v1_r C rfl mfX9_settle lk_X9_69 (by assumption) (t_settle hA' hT' dp mn hW4 hR7) ?_
    rw [ey]
    obtain ⟨S5, hS5⟩ : ∃ S5, S5 = sitR (M yd 8) (M yd 6) dp mn 0 R4 := ⟨_, rfl⟩
    rw [← hS5]
    have hW5 : WF S5 dp mn := ⟨by rw [hS5, sit_keep _ _ _ _ _ _ w4 (by omega)]; exact hW4.1, w1, w2, by rw [hS5, sit_keep _ _ _ _ _ _ w4 (by omega)]; exact hW4.2.2.2.1, w4⟩
    have hS8 : S5 8 = R 8 := by rw [hS5, sit_keep _ _ _ _ _ _ w4 (by omega)]; exact hR8
    have hlw : lowN (weekS (M yd 8) (M yd 6) (M yd 7) dr air fr dp mn R) 0 mn = lowN S5 0 mn := by
      by_cases q : mn = 0
      · subst q; rfl
      · rw [if_neg q] at hR1
        rw [hS5, hR4, hR3, hR2, hR1]; rfl
    have hwk : upd (fallR dp mn S5) 8 (R 8 + nI 1) = weekR (M yd 8) (M yd 6) (M yd 7) dr air fr dp mn R := by
      rw [weekR]
      by_cases q : mn = 0
      · rw [if_pos q]
        congr 1
        rw [if_pos q] at hR1
        subst q
        have e0 : S5 = R := by
          rw [hS5, sit_end, hR4, crack_0, hR3, hR2, hR1]
          rfl
        rw [e0]
        rfl
      · rw [if_neg q, weekW_S]
        rw [if_neg q] at hR1
        rw [hS5, hR4, hR3, hR2, hR1]; rfl
    refine r_istore C rfl (by exact Nat.le_of_ble_eq_true rfl) ?_
    refine r_aload_n C 1 rfl rfl rfl rfl ?_
    refine r_dup C rfl rfl ?_
    refine r_geti C rfl f_X9_28 (by assumption) rfl ?_
    refine r_top _ (wg_12 _ _ _) ?_
    refine r_ic (v := nI 1) C rfl (by decide) ?_
    refine r_iadd C rfl ?_
    refine r_puti C rfl f_X9_28 (by assumption) rfl rfl rfl ?_
    refine r_eqM (wp_12 _ _ _ _) ?_
    rw [hS8]
    refine r_iload C rfl rfl ?_
    refine r_ic (v := (-1)) C rfl (by decide) ?_
    cases hlow : lowN S5 0 mn with
    | none =>
      refine r_icmp_ne C 152 rfl (by decide) (fun h => absurd rfl h) (fun h => ?_)
      refine r_ic (v := nI 0) C rfl (by decide) ?_
      refine q_iret C hQ rfl rfl rfl ⟨rfl, rfl, by rw [hlw, hlow]; rfl, A, S, ?_⟩
      rw [← hwk, ← hM1, ← hM2]
      simp only [fallR, hlow]
    | some fl =>
      have hfl := lowN_lt hlow
      refine r_icmp_ne C 152 rfl (by decide) (fun h => ?_) (fun h => absurd h ?_)
      · have hW6 : WF (upd S5 8 (R 8 + nI 1)) dp mn := ⟨by simpa [upd] using hW5.1, w1, w2, by simpa [upd] using hW5.2.2.2.1, w4⟩
        show PT k E Q 0 0 Sh N G (wset M2 w (upd S5 8 (R 8 + nI 1))) 152 [some (.ref t), some (.ref w), some (.int dr), some (.int air), some (.int (bI fr)), some (.int (nI fl))] []
        refine r_aload_n C 1 rfl rfl rfl rfl ?_
        refine r_iload C rfl rfl ?_
        refine v1_v C rfl mfX8_fallFrom lk_X9_73 (by assumption) (w_fallFrom hA' dp mn fl hW6 rfl (by omega)) ?_
        refine r_ic (v := nI 1) C rfl (by decide) ?_
        refine q_iret C hQ rfl rfl rfl ⟨rfl, rfl, by rw [hlw, hlow]; rfl, A, S, ?_⟩
        rw [← hwk, ← hM1, ← hM2]
        simp only [fallR, hlow]
        congr 1
        rw [why_up _ _ _ _ (by decide), upd_comm S5 _ _ (show 8 ≠ 10 by decide), show upd S5 8 (R 8 + nI 1) 9 = S5 9 by simp [upd], upd_comm _ _ _ (show 8 ≠ 9 by decide), cut_up _ _ _ _ _ (by decide) (by decide) (by decide)]
      · show ¬ nI fl = -1
        intro q
        have q2 := congrArg Int32.toInt q
        rw [nI_toInt (by omega)] at q2
        have : (-1 : Int32).toInt = -1 := by decide
        omega
  have hy3 : ∀ j, wset M w R (yd + 3) j = M (yd + 3) j := fun j => wset_lo M R (by omega)
  refine r_ic (v := nI 0) C rfl (by decide) ?_
  refine r_istore_n C 2 rfl rfl (by exact Nat.le_of_ble_eq_true rfl) ?_
  refine r_bi (v := nI 20) C rfl (by decide) ?_
  refine r_istore_n C 3 rfl rfl (by exact Nat.le_of_ble_eq_true rfl) ?_
  refine r_ic (v := nI 0) C rfl (by decide) ?_
  refine r_istore C rfl (by exact Nat.le_of_ble_eq_true rfl) ?_
  refine r_aload_n C 0 rfl rfl rfl rfl ?_
  refine r_getv C rfl f_X9_18 (by assumption) rfl ?_
  refine r_geti C rfl f_X9_22 (by assumption) rfl ?_
  refine r_top _ (wset_lo _ _ (by omega)) ?_
  refine r_top (nI wk) hwk ?_
  refine r_if_le C 83 rfl (by decide) (fun h => ?_) (fun h => ?_)
  · have h := le_nI (a := wk) (b := 0) (by omega) (by omega) h
    have q : wk = 0 := by omega
    refine r_eqL ?_ (k83 (nI 0) (nI 20) false none (by rw [yRain, if_pos q]; rfl) (by rw [yAir, if_pos q]) (by rw [yFrost, if_pos q]))
    rfl
  have q : wk ≠ 0 := by
    intro q
    subst q
    exact absurd (Int32.le_refl _) h
  have hmod := Nat.mod_lt ps (Nat.pos_of_ne_zero q)
  refine r_aload_n C 1 rfl rfl rfl rfl ?_
  refine r_geti C rfl f_X9_28 (by assumption) rfl ?_
  refine r_top _ (wg_12 _ _ _) ?_
  refine r_top (nI ps) hps ?_
  refine r_aload_n C 0 rfl rfl rfl rfl ?_
  refine r_getv C rfl f_X9_18 (by assumption) rfl ?_
  refine r_geti C rfl f_X9_22 (by assumption) rfl ?_
  refine r_top _ (wset_lo _ _ (by omega)) ?_
  refine r_top (nI wk) hwk ?_
  refine s2_r C rfl mfJ9_floorMod_7cf53 lk_X9_33 (c_floorMod ps wk rfl rfl hp (by omega) (by omega)) ?_
  refine r_ic (v := nI 3) C rfl (by decide) ?_
  refine r_imul C rfl ?_
  refine r_top (nI (3 * (ps % wk))) (by rw [pk_mul, Nat.mul_comm]) ?_
  refine r_istore C rfl (by exact Nat.le_of_ble_eq_true rfl) ?_
  refine r_aload_n C 0 rfl rfl rfl rfl ?_
  refine r_getv C rfl f_X9_18 (by assumption) rfl ?_
  refine r_getv C rfl f_X9_39 (by assumption) rfl ?_
  refine r_iload C rfl rfl ?_
  refine r_iald C rfl (by assumption) (3 * (ps % wk)) rfl (by omega) (by decide) ?_
  refine r_top _ (hy3 _) ?_
  refine r_istore_n C 2 rfl rfl (by exact Nat.le_of_ble_eq_true rfl) ?_
  refine r_aload_n C 0 rfl rfl rfl rfl ?_
  refine r_getv C rfl f_X9_18 (by assumption) rfl ?_
  refine r_getv C rfl f_X9_39 (by assumption) rfl ?_
  refine r_iload C rfl rfl ?_
  refine r_ic (v := nI 1) C rfl (by decide) ?_
  refine r_iadd C rfl ?_
  refine r_iald C rfl (by assumption) (3 * (ps % wk) + 1) (by rw [nI_add]) (by omega) (by decide) ?_
  refine r_top _ (hy3 _) ?_
  refine r_istore_n C 3 rfl rfl (by exact Nat.le_of_ble_eq_true rfl) ?_
  refine r_aload_n C 0 rfl rfl rfl rfl ?_
  refine r_getv C rfl f_X9_18 (by assumption) rfl ?_
  refine r_getv C rfl f_X9_39 (by assumption) rfl ?_
  refine r_iload C rfl rfl ?_
  refine r_ic (v := nI 2) C rfl (by decide) ?_
  refine r_iadd C rfl ?_
  refine r_iald C rfl (by assumption) (3 * (ps % wk) + 2) (by rw [nI_add]) (by omega) (by decide) ?_
  refine r_top _ (hy3 _) ?_
  refine r_ic (v := nI 1) C rfl (by decide) ?_
  refine r_icmp_ne C 80 rfl (by decide) (fun h2 => ?_) (fun h2 => ?_)
  · refine r_ic (v := nI 0) C rfl (by decide) ?_
    refine r_istore C rfl (by exact Nat.le_of_ble_eq_true rfl) ?_
    refine r_eqL ?_ (k83 (M (yd + 3) (3 * (ps % wk))) (M (yd + 3) (3 * (ps % wk) + 1)) false (some (.int (nI (3 * (ps % wk))))) (by rw [yRain, if_neg q]) (by rw [yAir, if_neg q]) (by rw [yFrost, if_neg q, decide_eq_false h2]))
    rfl
  · refine r_ic (v := nI 1) C rfl (by decide) ?_
    refine r_goto C 81 rfl (by decide) ?_
    refine r_istore C rfl (by exact Nat.le_of_ble_eq_true rfl) ?_
    refine r_eqL ?_ (k83 (M (yd + 3) (3 * (ps % wk))) (M (yd + 3) (3 * (ps % wk) + 1)) true (some (.int (nI (3 * (ps % wk))))) (by rw [yRain, if_neg q]) (by rw [yAir, if_neg q]) (by rw [yFrost, if_neg q, decide_eq_true h2]))
    rfl
end WEATHER5
