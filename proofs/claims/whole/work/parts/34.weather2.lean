section WEATHER2
variable {E : VE} {Sh : Nat → SE} {N : Nat} {G : Bool} {M : MM} {w yd t : Nat} {R : Row}
theorem wset_aset (M : MM) (w a : Nat) (R : Row) (F : Nat → Int32) (h : a < w ∨ w + 4 ≤ a) : aset (wset M w R) a F = wset (aset M a F) w R := by
  funext x y
  simp only [aset, wset]
  by_cases e : x = a
  · subst e
    rw [if_pos rfl, if_neg (by omega), if_neg (by omega), if_neg (by omega), if_neg (by omega), if_pos rfl]
  · simp only [if_neg e]
theorem cpy_lo {f g : Nat → Int32} {n j : Nat} (h : j < n) : va_cpy f g 0 0 n j = f j := by
  simp only [va_cpy]
  rw [if_pos (by omega)]
  congr 1; omega
theorem t_move (hA : WA Sh N w yd) (hT : TA Sh N t yd) (hdis : t + 3 ≤ w ∨ w + 4 ≤ t) (dp mn : Nat) (hW : WF R dp mn) : Con E mX9_move 2 0 0 [.ref t, .ref w] Sh N G (wset M w R) (P1 none Sh N (wset (aset M (t + 2) (va_cpy (wset M w R (w + 1)) (M (t + 2)) 0 0 (6 * mn))) w (moveR (fun j => R (37 + j)) dp mn R))) nox := by
  obtain ⟨w0, w1, w2, w3, w4⟩ := hW
  have hA' := hA
  have hT' := hT
  obtain ⟨a0, a1, a2, a3, a4, a5⟩ := hA
  obtain ⟨t0, t1, t2, t3⟩ := hT
  refine Con.ofQ (by decide +kernel) (by simp [Value.category]) (Nat.le_of_ble_eq_true rfl) (fun k C0 Q hQ => ?_)
  have C : CK k E mX9_move kdX9_move 2 0 0 := ⟨C0, kdX9_move_ok⟩
  refine r_aload_n C 1 rfl rfl rfl rfl ?_
  refine r_getv C rfl f_X9_42 (by assumption) rfl ?_
  refine r_ic (v := nI 0) C rfl (by decide) ?_
  refine r_aload_n C 0 rfl rfl rfl rfl ?_
  refine r_getv C rfl f_X9_15 (by assumption) rfl ?_
  refine r_ic (v := nI 0) C rfl (by decide) ?_
  refine r_aload_n C 1 rfl rfl rfl rfl ?_
  refine r_geti C rfl f_X9_45 (by assumption) rfl ?_
  refine r_top _ (wg_5 _ _ _) ?_
  refine r_top (nI mn) w3 ?_
  refine r_bi (v := nI 6) C rfl (by decide) ?_
  refine r_imul C rfl ?_
  refine r_acopy C 0 0 (6 * mn) rfl lkac_X9_48 a1 t2 rfl rfl (by rw [pk_mul, Nat.mul_comm]) (by omega) (by omega) (by decide) (by decide) ?_
  rw [wset_aset _ _ _ _ _ (by omega), wset_cell M R (a := t + 2) (by omega)]
  have hfl : ∀ (a b : Nat) (q : Int32) (R' : Row), a < 6 * mn → b < 6 * mn → flowS (aset M (t + 2) (va_cpy (wset M w R (w + 1)) (M (t + 2)) 0 0 (6 * mn)) (t + 2)) a b q R' = flowS (fun j => R (37 + j)) a b q R' := fun a b q R' ha hb => by
    rw [aset_own]
    exact flowS_w q R' ((cpy_lo ha).trans (wg_w M w R (by omega))) ((cpy_lo hb).trans (wg_w M w R (by omega)))
  generalize hM1 : aset M (t + 2) (va_cpy (wset M w R (w + 1)) (M (t + 2)) 0 0 (6 * mn)) = M1 at hfl hQ ⊢
  have inner : ∀ (l : Nat) (R' : Row), l < mn → R' 0 = nI dp → R' 1 = nI mn → (∀ v5 : Option Value, PT k E Q 0 0 Sh N G (wset M1 w (it (fun c => moveS (fun j => R (37 + j)) dp mn l c) dp R')) 106 [some (.ref t), some (.ref w), some (.int (nI l)), some (.int (nI (6 * l))), some (.int (nI dp)), v5] []) → ∀ n c : Nat, c ≤ dp → dp - c < n → ∀ v5 : Option Value, PT k E Q 0 0 Sh N G (wset M1 w (it (fun c => moveS (fun j => R (37 + j)) dp mn l c) c R')) 38 [some (.ref t), some (.ref w), some (.int (nI l)), some (.int (nI (6 * l))), some (.int (nI c)), v5] [] := by
    intro l R' hl e0 e1 kk
    intro n
    induction n with
    | zero => intro i _ h; omega
    | succ n ih =>
      intro c hc hn v5
      have hk0 := (moveI_keep (fun j => R (37 + j)) dp mn l c R' (j := 0) (by decide)).trans e0
      have hk1 := (moveI_keep (fun j => R (37 + j)) dp mn l c R' (j := 1) (by decide)).trans e1
      have hih := fun h1 h2 v => ih (c + 1) h1 h2 v
      rw [it] at hih
      obtain ⟨R2, hR2⟩ : ∃ R2, R2 = it (fun c => moveS (fun j => R (37 + j)) dp mn l c) c R' := ⟨_, rfl⟩
      rw [← hR2] at hk0 hk1 hih ⊢
      refine r_iload C rfl rfl ?_
      refine r_aload_n C 1 rfl rfl rfl rfl ?_
      refine r_geti C rfl f_X9_77 (by assumption) rfl ?_
      refine r_top _ (wg_4 _ _ _) ?_
      refine r_top (nI dp) hk0 ?_
      refine r_icmp_ge C 106 rfl (by decide) (fun h => ?_) (fun h => ?_)
      · have h := le_nI (by omega) (by omega) h
        have e : c = dp := by omega
        subst e
        rw [hR2]
        exact kk _
      have h := nle_nI (by omega) (by omega) h
      have k100 : ∀ R4 : Row, R4 = moveS (fun j => R (37 + j)) dp mn l c R2 → PT k E Q 0 0 Sh N G (wset M1 w R4) 100 [some (.ref t), some (.ref w), some (.int (nI l)), some (.int (nI (6 * l))), some (.int (nI c)), some (.int (nI (6 * l + c)))] [] := by
        intro R4 hR4
        subst hR4
        refine r_iinc (c := nI 1) C rfl rfl (by decide) ?_
        refine r_goto C 38 rfl (by decide) ?_
        refine r_eqL ?_ (hih (by omega) (by omega) (some (.int (nI (6 * l + c)))))
        first | rfl | (simp only [sm, add3, nI_add, Int32.add_zero, Int32.zero_add]; rfl)
      have k76 : ∀ R3 : Row, R3 = (if c + 1 < dp then flowS (fun j => R (37 + j)) (6 * l + c) (6 * l + (c + 1)) (nI 4) R2 else R2) → PT k E Q 0 0 Sh N G (wset M1 w R3) 76 [some (.ref t), some (.ref w), some (.int (nI l)), some (.int (nI (6 * l))), some (.int (nI c)), some (.int (nI (6 * l + c)))] [] := by
        intro R3 hR3
        have hk : R3 1 = nI mn := by
          rw [hR3]
          split
          · rw [flowS_keep _ _ _ _ _ (by decide)]; exact hk1
          · exact hk1
        refine r_iload_n C 2 rfl rfl rfl ?_
        refine r_ic (v := nI 1) C rfl (by decide) ?_
        refine r_iadd C rfl ?_
        refine r_aload_n C 1 rfl rfl rfl rfl ?_
        refine r_geti C rfl f_X9_45 (by assumption) rfl ?_
        refine r_top _ (wg_5 _ _ _) ?_
        refine r_top (nI mn) hk ?_
        refine r_icmp_ge C 100 rfl (by decide) (fun h2 => ?_) (fun h2 => ?_)
        · rw [nI_add] at h2
          have h2 := le_nI (by omega) (by omega) h2
          refine k100 _ ?_
          simp only [moveS]
          rw [if_neg (by omega), hR3]
        · rw [nI_add] at h2
          have h2 := nle_nI (by omega) (by omega) h2
          refine r_aload_n C 0 rfl rfl rfl rfl ?_
          refine r_aload_n C 1 rfl rfl rfl rfl ?_
          refine r_iload C rfl rfl ?_
          refine r_iload C rfl rfl ?_
          refine r_bi (v := nI 6) C rfl (by decide) ?_
          refine r_iadd C rfl ?_
          refine r_bi (v := nI 8) C rfl (by decide) ?_
          refine v4_v C rfl mfX9_flow lk_X9_100 (by assumption) (t_flow hA' hT' hdis (6 * l + c) (6 * (l + 1) + c) rfl (by rw [nI_add, show 6 * l + c + 6 = 6 * (l + 1) + c by omega]) (by omega) (by omega) (by decide)) ?_
          refine k100 _ ?_
          rw [hfl _ _ _ _ (by omega) (by omega)]
          simp only [moveS]
          rw [if_pos h2, hR3]
      refine r_iload_n C 3 rfl rfl rfl ?_
      refine r_iload C rfl rfl ?_
      refine r_iadd C rfl ?_
      refine r_top (nI (6 * l + c)) (by rw [nI_add]) ?_
      refine r_istore C rfl (by exact Nat.le_of_ble_eq_true rfl) ?_
      refine r_iload C rfl rfl ?_
      refine r_ic (v := nI 1) C rfl (by decide) ?_
      refine r_iadd C rfl ?_
      refine r_aload_n C 1 rfl rfl rfl rfl ?_
      refine r_geti C rfl f_X9_77 (by assumption) rfl ?_
      refine r_top _ (wg_4 _ _ _) ?_
      refine r_top (nI dp) hk0 ?_
      refine r_icmp_ge C 76 rfl (by decide) (fun h2 => ?_) (fun h2 => ?_)
      · rw [nI_add] at h2
        have h2 := le_nI (by omega) (by omega) h2
        exact k76 _ (by rw [if_neg (by omega)])
      · rw [nI_add] at h2
        have h2 := nle_nI (by omega) (by omega) h2
        refine r_aload_n C 0 rfl rfl rfl rfl ?_
        refine r_aload_n C 1 rfl rfl rfl rfl ?_
        refine r_iload C rfl rfl ?_
        refine r_iload C rfl rfl ?_
        refine r_ic (v := nI 1) C rfl (by decide) ?_
        refine r_iadd C rfl ?_
        refine r_ic (v := nI 4) C rfl (by decide) ?_
        refine v4_v C rfl mfX9_flow lk_X9_100 (by assumption) (t_flow hA' hT' hdis (6 * l + c) (6 * l + (c + 1)) rfl (by rw [nI_add, show 6 * l + c + 1 = 6 * l + (c + 1) by omega]) (by omega) (by omega) (by decide)) ?_
        exact k76 _ (by rw [hfl _ _ _ _ (by omega) (by omega), if_pos h2])
  have loop : ∀ n i : Nat, i ≤ mn → mn - i < n → ∀ v3 v4 v5 : Option Value, PT k E Q 0 0 Sh N G (wset M1 w (it (fun l => it (fun c => moveS (fun j => R (37 + j)) dp mn l c) dp) i R)) 22 [some (.ref t), some (.ref w), some (.int (nI i)), v3, v4, v5] [] := by
    intro n
    induction n with
    | zero => intro i _ h; omega
    | succ n ih =>
      intro i hi hn v3 v4 v5
      have hk0 := (moveR_keep (fun j => R (37 + j)) dp mn i R (j := 0) (by decide)).trans w0
      have hk1 := (moveR_keep (fun j => R (37 + j)) dp mn i R (j := 1) (by decide)).trans w3
      refine r_iload_n C 2 rfl rfl rfl ?_
      refine r_aload_n C 1 rfl rfl rfl rfl ?_
      refine r_geti C rfl f_X9_45 (by assumption) rfl ?_
      refine r_top _ (wg_5 _ _ _) ?_
      refine r_top (nI mn) hk1 ?_
      refine r_icmp_ge C 112 rfl (by decide) (fun h => ?_) (fun h => ?_)
      · have h := le_nI (by omega) (by omega) h
        have e : i = mn := by omega
        subst e
        exact q_vret C hQ rfl rfl ⟨rfl, rfl, rfl, rfl⟩
      · have h := nle_nI (by omega) (by omega) h
        refine r_iload_n C 2 rfl rfl rfl ?_
        refine r_bi (v := nI 6) C rfl (by decide) ?_
        refine r_imul C rfl ?_
        refine r_top (nI (6 * i)) (by rw [pk_mul, Nat.mul_comm]) ?_
        refine r_istore_n C 3 rfl rfl (by exact Nat.le_of_ble_eq_true rfl) ?_
        refine r_ic (v := nI 0) C rfl (by decide) ?_
        refine r_istore C rfl (by exact Nat.le_of_ble_eq_true rfl) ?_
        refine r_eqL ?_ (inner i _ h hk0 hk1 (fun v5 => ?_) (dp + 1) 0 (by omega) (by omega) v5)
        · first | rfl | (simp only [sm, add3, nI_add, Int32.add_zero, Int32.zero_add]; rfl)
        refine r_iinc (c := nI 1) C rfl rfl (by decide) ?_
        refine r_goto C 22 rfl (by decide) ?_
        refine r_eqL ?_ (ih (i + 1) (by omega) (by omega) (some (.int (nI (6 * i)))) (some (.int (nI dp))) v5)
        first | rfl | (simp only [sm, add3, nI_add, Int32.add_zero, Int32.zero_add]; rfl)
  refine r_ic (v := nI 0) C rfl (by decide) ?_
  refine r_istore_n C 2 rfl rfl (by exact Nat.le_of_ble_eq_true rfl) ?_
  exact loop (mn + 1) 0 (by omega) (by omega) none none none
theorem mi_comm (a b : Int32) : mi a b = mi b a := by
  simp only [mi, Int32.lt_iff_toInt_lt]
  by_cases h1 : b.toInt < a.toInt
  · rw [if_pos h1, if_neg (by omega)]
  · rw [if_neg h1]
    by_cases h2 : a.toInt < b.toInt
    · rw [if_pos h2]
    · rw [if_neg h2]; exact Int32.toInt_inj.mp (by omega)
theorem t_dry (hA : WA Sh N w yd) (hT : TA Sh N t yd) {air : Int32} (dp mn : Nat) (hW : WF R dp mn) : Con E mX9_dry 2 0 0 [.ref t, .ref w, .int air] Sh N G (wset M w R) (P1 none Sh N (wset M w (dryR air dp mn R))) nox := by
  obtain ⟨w0, w1, w2, w3, w4⟩ := hW
  have hA' := hA
  obtain ⟨a0, a1, a2, a3, a4, a5⟩ := hA
  obtain ⟨t0, t1, t2, t3⟩ := hT
  refine Con.ofQ (by decide +kernel) (by simp [Value.category]) (Nat.le_of_ble_eq_true rfl) (fun k C0 Q hQ => ?_)
  have C : CK k E mX9_dry kdX9_dry 2 0 0 := ⟨C0, kdX9_dry_ok⟩
  have inner : ∀ (l : Nat) (R' : Row), l < mn → R' 0 = nI dp → (∀ v7 v8 : Option Value, PT k E Q 0 0 Sh N G (wset M w (it (fun c => dryS air dp mn l c) dp R')) 139 [some (.ref t), some (.ref w), some (.int air), some (.int (nI l)), some (.int (nI (6 * l))), some (.int (if l = mn - 1 then nI 50 else 0)), some (.int (nI dp)), v7, v8] []) → ∀ n c : Nat, c ≤ dp → dp - c < n → ∀ v7 v8 : Option Value, PT k E Q 0 0 Sh N G (wset M w (it (fun c => dryS air dp mn l c) c R')) 37 [some (.ref t), some (.ref w), some (.int air), some (.int (nI l)), some (.int (nI (6 * l))), some (.int (if l = mn - 1 then nI 50 else 0)), some (.int (nI c)), v7, v8] [] := by
    intro l R' hl e0 kk
    intro n
    induction n with
    | zero => intro i _ h; omega
    | succ n ih =>
      intro c hc hn v7 v8
      have hk0 := (dryI_keep air dp mn l c R' (j := 0) (by decide) (by decide)).trans e0
      have hih := fun h1 h2 => ih (c + 1) h1 h2
      rw [it] at hih
      obtain ⟨R2, hR2⟩ : ∃ R2, R2 = it (fun c => dryS air dp mn l c) c R' := ⟨_, rfl⟩
      rw [← hR2] at hk0 hih ⊢
      refine r_iload C rfl rfl ?_
      refine r_aload_n C 1 rfl rfl rfl rfl ?_
      refine r_geti C rfl f_X9_77 (by assumption) rfl ?_
      refine r_top _ (wg_4 _ _ _) ?_
      refine r_top (nI dp) hk0 ?_
      refine r_icmp_ge C 139 rfl (by decide) (fun h => ?_) (fun h => ?_)
      · have h := le_nI (by omega) (by omega) h
        have e : c = dp := by omega
        subst e
        rw [hR2]
        exact kk _ _
      have h := nle_nI (by omega) (by omega) h
      have k91 : ∀ z1 z2 : Int32, z1 = (if c = 0 then R2 5 else 0) → z2 = (if c = dp - 1 then R2 6 / nI 2 else 0) → PT k E Q 0 0 Sh N G (wset M w R2) 91 [some (.ref t), some (.ref w), some (.int air), some (.int (nI l)), some (.int (nI (6 * l))), some (.int (if l = mn - 1 then nI 50 else 0)), some (.int (nI c)), some (.int ((if l = mn - 1 then nI 50 else 0) + z1)), v8] [.int z2, .int ((if l = mn - 1 then nI 50 else 0) + z1)] := by
        intro z1 z2 hz1 hz2
        refine r_iadd C rfl ?_
        refine r_istore C rfl (by exact Nat.le_of_ble_eq_true rfl) ?_
        refine r_ic (v := nI 0) C rfl (by decide) ?_
        refine r_aload_n C 1 rfl rfl rfl rfl ?_
        refine r_getv C rfl f_X9_42 (by assumption) rfl ?_
        refine r_iload C rfl rfl ?_
        refine r_iload C rfl rfl ?_
        refine r_iadd C rfl ?_
        refine r_iald C rfl (by assumption) (6 * l + c) (by rw [nI_add]) (by omega) (by decide) ?_
        refine r_top _ (wg_w _ _ _ (by omega)) ?_
        refine r_bi (v := nI 100) C rfl (by decide) ?_
        refine r_isub C rfl ?_
        refine r_max C rfl lk_X9_97 ?_
        refine r_istore C rfl (by exact Nat.le_of_ble_eq_true rfl) ?_
        refine r_aload_n C 1 rfl rfl rfl rfl ?_
        refine r_iload C rfl rfl ?_
        refine r_iload C rfl rfl ?_
        refine r_iadd C rfl ?_
        refine r_iload C rfl rfl ?_
        refine r_iload_n C 2 rfl rfl rfl ?_
        refine r_imul C rfl ?_
        refine r_iload C rfl rfl ?_
        refine r_imul C rfl ?_
        refine r_si (v := nI 20000) C rfl (by decide) ?_
        refine r_idiv C rfl (by decide) ?_
        refine v2_v C rfl mfX8_evaporate lk_X9_107 (by assumption) (w_evaporate hA' (6 * l + c) (by rw [nI_add]) (by omega)) ?_
        have hlets : (if l = mn - 1 then nI 50 else 0) + z1 + z2 = dryN R2 dp mn l c := by
          rw [hz1, hz2, dryN, Int32.add_comm (if l = mn - 1 then nI 50 else 0), add3, Int32.add_comm (if l = mn - 1 then nI 50 else 0), ← add3]
        rw [hlets, mi_comm]
        refine r_iinc (c := nI 1) C rfl rfl (by decide) ?_
        refine r_goto C 37 rfl (by decide) ?_
        refine r_eqM ?_ (r_eqL ?_ (hih (by omega) (by omega) (some (.int (dryN R2 dp mn l c))) (some (.int (mx 0 (R2 (37 + (6 * l + c)) - nI 100))))))
        · rfl
        · first | rfl | (simp only [sm, add3, nI_add, Int32.add_zero, Int32.zero_add]; rfl)
      have k65 : ∀ z1 : Int32, z1 = (if c = 0 then R2 5 else 0) → PT k E Q 0 0 Sh N G (wset M w R2) 65 [some (.ref t), some (.ref w), some (.int air), some (.int (nI l)), some (.int (nI (6 * l))), some (.int (if l = mn - 1 then nI 50 else 0)), some (.int (nI c)), some (.int (if l = mn - 1 then nI 50 else 0)), v8] [.int z1, .int (if l = mn - 1 then nI 50 else 0)] := by
        intro z1 hz1
        refine r_iadd C rfl ?_
        refine r_istore C rfl (by exact Nat.le_of_ble_eq_true rfl) ?_
        refine r_iload C rfl rfl ?_
        refine r_iload C rfl rfl ?_
        refine r_aload_n C 1 rfl rfl rfl rfl ?_
        refine r_geti C rfl f_X9_77 (by assumption) rfl ?_
        refine r_top _ (wg_4 _ _ _) ?_
        refine r_top (nI dp) hk0 ?_
        refine r_ic (v := nI 1) C rfl (by decide) ?_
        refine r_isub C rfl ?_
        refine r_top (nI (dp - 1)) (pk_sub (by omega)) ?_
        refine r_icmp_ne C 90 rfl (by decide) (fun h2 => ?_) (fun h2 => ?_)
        · refine r_ic (v := nI 0) C rfl (by decide) ?_
          exact k91 _ _ hz1 (by rw [if_neg (fun q => h2 (by rw [q]))]; rfl)
        · have h2 := (nI_eq (by omega) (by omega)).mp h2
          refine r_aload_n C 1 rfl rfl rfl rfl ?_
          refine r_geti C rfl f_X9_104 (by assumption) rfl ?_
          refine r_top _ (wg_10 _ _ _) ?_
          refine r_ic (v := nI 2) C rfl (by decide) ?_
          refine r_idiv C rfl (by decide) ?_
          refine r_goto C 91 rfl (by decide) ?_
          exact k91 _ _ hz1 (by rw [if_pos h2])
      refine r_iload C rfl rfl ?_
      refine r_istore C rfl (by exact Nat.le_of_ble_eq_true rfl) ?_
      refine r_iload C rfl rfl ?_
      refine r_iload C rfl rfl ?_
      refine r_if_ne C 64 rfl (by decide) (fun h2 => ?_) (fun h2 => ?_)
      · refine r_ic (v := nI 0) C rfl (by decide) ?_
        exact k65 _ (by rw [if_neg (fun q => h2 (by rw [q]; rfl))]; rfl)
      · have h2 : c = 0 := (nI_eq (b := 0) (by omega) (by omega)).mp h2
        refine r_aload_n C 1 rfl rfl rfl rfl ?_
        refine r_geti C rfl f_X9_88 (by assumption) rfl ?_
        refine r_top _ (wg_9 _ _ _) ?_
        refine r_goto C 65 rfl (by decide) ?_
        exact k65 _ (by rw [if_pos h2])
  have loop : ∀ n i : Nat, i ≤ mn → mn - i < n → ∀ v4 v5 v6 v7 v8 : Option Value, PT k E Q 0 0 Sh N G (wset M w (it (fun l => it (fun c => dryS air dp mn l c) dp) i R)) 2 [some (.ref t), some (.ref w), some (.int air), some (.int (nI i)), v4, v5, v6, v7, v8] [] := by
    intro n
    induction n with
    | zero => intro i _ h; omega
    | succ n ih =>
      intro i hi hn v4 v5 v6 v7 v8
      have hk0 := (dryR_keep air dp mn i R (j := 0) (by decide) (by decide)).trans w0
      have hk1 := (dryR_keep air dp mn i R (j := 1) (by decide) (by decide)).trans w3
      refine r_iload_n C 3 rfl rfl rfl ?_
      refine r_aload_n C 1 rfl rfl rfl rfl ?_
      refine r_geti C rfl f_X9_45 (by assumption) rfl ?_
      refine r_top _ (wg_5 _ _ _) ?_
      refine r_top (nI mn) hk1 ?_
      refine r_icmp_ge C 145 rfl (by decide) (fun h => ?_) (fun h => ?_)
      · have h := le_nI (by omega) (by omega) h
        have e : i = mn := by omega
        subst e
        exact q_vret C hQ rfl rfl ⟨rfl, rfl, rfl, rfl⟩
      have h := nle_nI (by omega) (by omega) h
      have k32 : ∀ z : Int32, z = (if i = mn - 1 then nI 50 else 0) → PT k E Q 0 0 Sh N G (wset M w (it (fun l => it (fun c => dryS air dp mn l c) dp) i R)) 32 [some (.ref t), some (.ref w), some (.int air), some (.int (nI i)), some (.int (nI (6 * i))), v5, v6, v7, v8] [.int z] := by
        intro z hz
        subst hz
        refine r_istore C rfl (by exact Nat.le_of_ble_eq_true rfl) ?_
        refine r_ic (v := nI 0) C rfl (by decide) ?_
        refine r_istore C rfl (by exact Nat.le_of_ble_eq_true rfl) ?_
        refine r_eqL ?_ (inner i _ h hk0 (fun v7 v8 => ?_) (dp + 1) 0 (by omega) (by omega) v7 v8)
        · first | rfl | (simp only [sm, add3, nI_add, Int32.add_zero, Int32.zero_add]; rfl)
        refine r_iinc (c := nI 1) C rfl rfl (by decide) ?_
        refine r_goto C 2 rfl (by decide) ?_
        refine r_eqL ?_ (ih (i + 1) (by omega) (by omega) (some (.int (nI (6 * i)))) (some (.int (if i = mn - 1 then nI 50 else 0))) (some (.int (nI dp))) v7 v8)
        first | rfl | (simp only [sm, add3, nI_add, Int32.add_zero, Int32.zero_add]; rfl)
      refine r_iload_n C 3 rfl rfl rfl ?_
      refine r_bi (v := nI 6) C rfl (by decide) ?_
      refine r_imul C rfl ?_
      refine r_top (nI (6 * i)) (by rw [pk_mul, Nat.mul_comm]) ?_
      refine r_istore C rfl (by exact Nat.le_of_ble_eq_true rfl) ?_
      refine r_iload_n C 3 rfl rfl rfl ?_
      refine r_aload_n C 1 rfl rfl rfl rfl ?_
      refine r_geti C rfl f_X9_45 (by assumption) rfl ?_
      refine r_top _ (wg_5 _ _ _) ?_
      refine r_top (nI mn) hk1 ?_
      refine r_ic (v := nI 1) C rfl (by decide) ?_
      refine r_isub C rfl ?_
      refine r_top (nI (mn - 1)) (pk_sub (by omega)) ?_
      refine r_icmp_ne C 31 rfl (by decide) (fun h2 => ?_) (fun h2 => ?_)
      · refine r_ic (v := nI 0) C rfl (by decide) ?_
        exact k32 _ (by rw [if_neg (fun q => h2 (by rw [q]))]; rfl)
      · have h2 := (nI_eq (by omega) (by omega)).mp h2
        refine r_bi (v := nI 50) C rfl (by decide) ?_
        refine r_goto C 32 rfl (by decide) ?_
        exact k32 _ (by rw [if_pos h2])
  refine r_ic (v := nI 0) C rfl (by decide) ?_
  refine r_istore_n C 3 rfl rfl (by exact Nat.le_of_ble_eq_true rfl) ?_
  exact loop (mn + 1) 0 (by omega) (by omega) none none none none none
end WEATHER2
