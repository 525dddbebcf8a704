section MODEL7
variable {E : VE} {Sh : Nat → SE} {N : Nat} {G : Bool} {M : MM} {o r : Nat} {R : Row}
theorem s_crack (hM : MO Sh N o) {x : Int32} (fr : Bool) (dp mn : Nat) (hW : WF R dp mn) (hx : x = nI r) (hr : r < 36) : Con E mX12_crack 2 0 0 [.ref o, .int x, .int (bI fr)] Sh N G (mset M o r R) (P1 none Sh N (mset M o r (crackR fr (shr M o) (M (o + 2)) dp mn 0 R))) nox := by
  subst hx
  obtain ⟨w0, w1, w2, w3, w4⟩ := hW
  have h0 := hM.1
  have h1 := hM.ar 1 rfl
  refine Con.ofQ (by decide +kernel) (by simp [Value.category]) (Nat.le_of_ble_eq_true rfl) (fun k C0 Q hQ => ?_)
  have C : CK k E mX12_crack kdX12_crack 2 0 0 := ⟨C0, kdX12_crack_ok⟩
  have inner : ∀ (l : Nat), l < mn → (∀ v5 v6 v7 v8 : Option Value, PT k E Q 0 0 Sh N G (mset M o r (crackR fr (shr M o) (M (o + 2)) dp (l + 1) 0 R)) 160 [some (.ref o), some (.int (nI r)), some (.int (bI fr)), some (.int (nI l)), some (.int (nI dp)), v5, v6, v7, v8] []) → ∀ n c : Nat, c ≤ dp → dp - c < n → ∀ v5 v6 v7 v8 : Option Value, PT k E Q 0 0 Sh N G (mset M o r (crackR fr (shr M o) (M (o + 2)) dp l c R)) 15 [some (.ref o), some (.int (nI r)), some (.int (bI fr)), some (.int (nI l)), some (.int (nI c)), v5, v6, v7, v8] [] := by
    intro l hl kk
    intro n
    induction n with
    | zero => intro i _ h; omega
    | succ n ih =>
      intro c hc hn v5 v6 v7 v8
      have hk0 := (crack_lo fr (shr M o) (M (o + 2)) dp l c R (j := 0) (by decide)).trans w0
      refine r_iload C rfl rfl ?_
      refine r_aload_n C 0 rfl rfl rfl rfl ?_
      refine r_iload_n C 1 rfl rfl rfl ?_
      refine r_ic (v := nI 0) C rfl (by decide) ?_
      refine v2_r C rfl mfX12_of lk_X12_238 (by assumption) (s_of hM 0 rfl rfl hr (by decide)) ?_
      refine r_top (nI dp) hk0 ?_
      refine r_icmp_ge C 160 rfl (by decide) (fun h => ?_) (fun h => ?_)
      · have h := le_nI (by omega) (by omega) h
        have e : c = dp := by omega
        subst e
        rw [crack_row]
        exact kk v5 v6 v7 v8
      have h := nle_nI (by omega) (by omega) h
      have hv := crack_lo fr (shr M o) (M (o + 2)) dp l c R (j := 37 + (6 * l + c)) (by omega)
      have hb : mset M o r (crackR fr (shr M o) (M (o + 2)) dp l c R) (o + 2) = M (o + 2) := mset_cell (by omega)
      have k154 : ∀ R4 v7 v8, R4 = crackR fr (shr M o) (M (o + 2)) dp l (c + 1) R → PT k E Q 0 0 Sh N G (mset M o r R4) 154 [some (.ref o), some (.int (nI r)), some (.int (bI fr)), some (.int (nI l)), some (.int (nI c)), some (.int (nI (6 * l + c))), some (.int (R (37 + (6 * l + c)))), v7, v8] [] := by
        intro R4 v7 v8 hR4
        subst hR4
        refine r_iinc (c := nI 1) C rfl rfl (by decide) ?_
        refine r_goto C 15 rfl (by decide) ?_
        refine r_eqL ?_ (ih (c + 1) (by omega) (by omega) (some (.int (nI (6 * l + c)))) (some (.int (R (37 + (6 * l + c))))) v7 v8)
        first | rfl | (simp only [sm, add3, nI_add, Int32.add_zero, Int32.zero_add]; rfl)
      obtain ⟨cd, hcd⟩ : ∃ cd : Bool, cd = (fr && decide (c = 0) && (decide (nI 180 ≤ M (o + 2) (6 * l + c)) || decide (nI 180 ≤ R (37 + (6 * l + c))))) := ⟨_, rfl⟩
      obtain ⟨cs, hcs⟩ : ∃ cs : Bool, cs = (decide (nI 60 < shr M o) && decide (nI 150 ≤ M (o + 2) (6 * l + c)) && decide (R (37 + (6 * l + c)) < nI 150)) := ⟨_, rfl⟩
      have hcr : cracks fr (shr M o) (M (o + 2) (6 * l + c)) (R (37 + (6 * l + c))) c = (cd || cs) := by rw [hcd, hcs]; rfl
      have k118 : ∀ z : Int32, z = bI cs → PT k E Q 0 0 Sh N G (mset M o r (crackR fr (shr M o) (M (o + 2)) dp l c R)) 118 [some (.ref o), some (.int (nI r)), some (.int (bI fr)), some (.int (nI l)), some (.int (nI c)), some (.int (nI (6 * l + c))), some (.int (R (37 + (6 * l + c)))), some (.int (bI cd)), v8] [.int z] := by
        intro z hz
        subst hz
        have kput : (cd || cs) = true → PT k E Q 0 0 Sh N G (mset M o r (crackR fr (shr M o) (M (o + 2)) dp l c R)) 130 [some (.ref o), some (.int (nI r)), some (.int (bI fr)), some (.int (nI l)), some (.int (nI c)), some (.int (nI (6 * l + c))), some (.int (R (37 + (6 * l + c)))), some (.int (bI cd)), some (.int (bI cs))] [] := by
          intro hy
          refine r_aload_n C 0 rfl rfl rfl rfl ?_
          refine r_iload_n C 1 rfl rfl rfl ?_
          refine r_si (v := nI 181) C rfl (by decide) ?_
          refine r_iload C rfl rfl ?_
          refine r_iadd C rfl ?_
          refine r_aload_n C 0 rfl rfl rfl rfl ?_
          refine r_iload_n C 1 rfl rfl rfl ?_
          refine r_si (v := nI 181) C rfl (by decide) ?_
          refine r_iload C rfl rfl ?_
          refine r_iadd C rfl ?_
          refine v2_r C rfl mfX12_of lk_X12_238 (by assumption) (s_of hM (181 + (6 * l + c)) rfl (by rw [nI_add]) hr (by omega)) ?_
          refine r_top (R (181 + (6 * l + c))) (crack_new _ _ _ _ _ _ _ (by omega)) ?_
          refine r_ic (v := nI 1) C rfl (by decide) ?_
          refine r_ior C rfl ?_
          refine v3_v C rfl mfX12_put lk_X12_175 (by assumption) (s_put hM (181 + (6 * l + c)) rfl (by rw [nI_add]) hr (by omega)) ?_
          exact k154 _ _ _ (crack_yes h w2 (by omega) (by rw [hcr]; exact hy))
        refine r_istore C rfl (by exact Nat.le_of_ble_eq_true rfl) ?_
        refine r_iload C rfl rfl ?_
        refine r_if_ne C 130 rfl (by decide) (fun h2 => ?_) (fun h2 => ?_)
        · exact kput (by rw [bI_1 h2]; rfl)
        · refine r_iload C rfl rfl ?_
          refine r_if_eq C 154 rfl (by decide) (fun h3 => ?_) (fun h3 => ?_)
          · exact k154 _ _ _ (crack_no (by rw [hcr, bI_0 h2, bI_0 h3]; rfl))
          · exact kput (by rw [bI_1 h3, Bool.or_true])
      have k81 : ∀ z : Int32, z = bI cd → PT k E Q 0 0 Sh N G (mset M o r (crackR fr (shr M o) (M (o + 2)) dp l c R)) 81 [some (.ref o), some (.int (nI r)), some (.int (bI fr)), some (.int (nI l)), some (.int (nI c)), some (.int (nI (6 * l + c))), some (.int (R (37 + (6 * l + c)))), v7, v8] [.int z] := by
        intro z hz
        subst hz
        refine r_istore C rfl (by exact Nat.le_of_ble_eq_true rfl) ?_
        refine r_aload_n C 0 rfl rfl rfl rfl ?_
        refine v0_r C rfl mfX12_shrink lk_X12_232 (by assumption) (s_shrink hM) ?_
        refine r_bi (v := nI 60) C rfl (by decide) ?_
        refine r_icmp_le C 117 rfl (by decide) (fun h2 => ?_) (fun h2 => ?_)
        · refine r_ic (v := nI 0) C rfl (by decide) ?_
          exact k118 _ (by rw [hcs, decide_eq_false (Int32.not_lt.mpr h2)]; rfl)
        refine r_aload_n C 0 rfl rfl rfl rfl ?_
        refine r_getv C rfl f_X12_13 (by assumption) rfl ?_
        refine r_iload C rfl rfl ?_
        refine r_iald C rfl (by assumption) (6 * l + c) rfl (by omega) (by decide) ?_
        refine r_si (v := nI 150) C rfl (by decide) ?_
        rw [hb]
        refine r_icmp_lt C 117 rfl (by decide) (fun h3 => ?_) (fun h3 => ?_)
        · refine r_ic (v := nI 0) C rfl (by decide) ?_
          exact k118 _ (by rw [hcs, decide_eq_false (fun q : nI 150 ≤ _ => absurd h3 (Int32.not_lt.mpr q)), Bool.and_false]; rfl)
        refine r_iload C rfl rfl ?_
        refine r_si (v := nI 150) C rfl (by decide) ?_
        refine r_icmp_ge C 117 rfl (by decide) (fun h4 => ?_) (fun h4 => ?_)
        · refine r_ic (v := nI 0) C rfl (by decide) ?_
          exact k118 _ (by rw [hcs, decide_eq_false (Int32.not_lt.mpr h4), Bool.and_false]; rfl)
        refine r_ic (v := nI 1) C rfl (by decide) ?_
        refine r_goto C 118 rfl (by decide) ?_
        exact k118 _ (by rw [hcs, decide_eq_true (Int32.not_le.mp h2), decide_eq_true (Int32.not_lt.mp h3), decide_eq_true (Int32.not_le.mp h4)]; rfl)
      refine r_iload_n C 3 rfl rfl rfl ?_
      refine r_iload C rfl rfl ?_
      refine s2_r C rfl mfX12_at lk_X12_241 (c_X12_at l c rfl rfl) ?_
      refine r_istore C rfl (by exact Nat.le_of_ble_eq_true rfl) ?_
      refine r_aload_n C 0 rfl rfl rfl rfl ?_
      refine r_iload_n C 1 rfl rfl rfl ?_
      refine r_bi (v := nI 37) C rfl (by decide) ?_
      refine r_iload C rfl rfl ?_
      refine r_iadd C rfl ?_
      refine v2_r C rfl mfX12_of lk_X12_238 (by assumption) (s_of hM (37 + (6 * l + c)) rfl (by rw [nI_add]) hr (by omega)) ?_
      refine r_top (R (37 + (6 * l + c))) hv ?_
      refine r_istore C rfl (by exact Nat.le_of_ble_eq_true rfl) ?_
      refine r_iload_n C 2 rfl rfl rfl ?_
      refine r_if_eq C 80 rfl (by decide) (fun h2 => ?_) (fun h2 => ?_)
      · refine r_ic (v := nI 0) C rfl (by decide) ?_
        exact k81 _ (by rw [hcd, bI_0 h2]; rfl)
      have h2 := bI_1 h2
      refine r_iload C rfl rfl ?_
      refine r_if_ne C 80 rfl (by decide) (fun h3 => ?_) (fun h3 => ?_)
      · refine r_ic (v := nI 0) C rfl (by decide) ?_
        exact k81 _ (by rw [hcd, decide_eq_false (fun q : c = 0 => h3 (by rw [q]; rfl)), Bool.and_false]; rfl)
      have h3 : c = 0 := (nI_eq (b := 0) (by omega) (by omega)).mp h3
      refine r_aload_n C 0 rfl rfl rfl rfl ?_
      refine r_getv C rfl f_X12_13 (by assumption) rfl ?_
      refine r_iload C rfl rfl ?_
      refine r_iald C rfl (by assumption) (6 * l + c) rfl (by omega) (by decide) ?_
      refine r_si (v := nI 180) C rfl (by decide) ?_
      rw [hb]
      refine r_icmp_ge C 76 rfl (by decide) (fun h4 => ?_) (fun h4 => ?_)
      · refine r_ic (v := nI 1) C rfl (by decide) ?_
        refine r_goto C 81 rfl (by decide) ?_
        exact k81 _ (by rw [hcd, h2, decide_eq_true h3, decide_eq_true h4]; rfl)
      refine r_iload C rfl rfl ?_
      refine r_si (v := nI 180) C rfl (by decide) ?_
      refine r_icmp_lt C 80 rfl (by decide) (fun h5 => ?_) (fun h5 => ?_)
      · refine r_ic (v := nI 0) C rfl (by decide) ?_
        exact k81 _ (by rw [hcd, decide_eq_false h4, decide_eq_false (fun q : nI 180 ≤ _ => absurd h5 (Int32.not_lt.mpr q)), Bool.or_false, Bool.and_false]; rfl)
      · refine r_ic (v := nI 1) C rfl (by decide) ?_
        refine r_goto C 81 rfl (by decide) ?_
        exact k81 _ (by rw [hcd, h2, decide_eq_true h3, decide_eq_true (Int32.not_lt.mp h5), Bool.or_true]; rfl)
  have loop : ∀ n i : Nat, i ≤ mn → mn - i < n → ∀ v4 v5 v6 v7 v8 : Option Value, PT k E Q 0 0 Sh N G (mset M o r (crackR fr (shr M o) (M (o + 2)) dp i 0 R)) 2 [some (.ref o), some (.int (nI r)), some (.int (bI fr)), some (.int (nI i)), v4, v5, v6, v7, v8] [] := by
    intro n
    induction n with
    | zero => intro i _ h; omega
    | succ n ih =>
      intro i hi hn v4 v5 v6 v7 v8
      have hk1 := (crack_lo fr (shr M o) (M (o + 2)) dp i 0 R (j := 1) (by decide)).trans w3
      refine r_iload_n C 3 rfl rfl rfl ?_
      refine r_aload_n C 0 rfl rfl rfl rfl ?_
      refine r_iload_n C 1 rfl rfl rfl ?_
      refine r_ic (v := nI 1) C rfl (by decide) ?_
      refine v2_r C rfl mfX12_of lk_X12_238 (by assumption) (s_of hM 1 rfl rfl hr (by decide)) ?_
      refine r_top (nI mn) hk1 ?_
      refine r_icmp_ge C 166 rfl (by decide) (fun h => ?_) (fun h => ?_)
      · have h := le_nI (by omega) (by omega) h
        have e : i = mn := by omega
        subst e
        exact q_vret C hQ rfl rfl ⟨rfl, rfl, rfl, rfl⟩
      · have h := nle_nI (by omega) (by omega) h
        refine r_ic (v := nI 0) C rfl (by decide) ?_
        refine r_istore C rfl (by exact Nat.le_of_ble_eq_true rfl) ?_
        refine r_eqL ?_ (inner i h (fun v5 v6 v7 v8 => ?_) (dp + 1) 0 (by omega) (by omega) v5 v6 v7 v8)
        · first | rfl | (simp only [sm, add3, nI_add, Int32.add_zero, Int32.zero_add]; rfl)
        refine r_iinc (c := nI 1) C rfl rfl (by decide) ?_
        refine r_goto C 2 rfl (by decide) ?_
        refine r_eqL ?_ (ih (i + 1) (by omega) (by omega) (some (.int (nI dp))) v5 v6 v7 v8)
        first | rfl | (simp only [sm, add3, nI_add, Int32.add_zero, Int32.zero_add]; rfl)
  refine r_ic (v := nI 0) C rfl (by decide) ?_
  refine r_istore_n C 3 rfl rfl (by exact Nat.le_of_ble_eq_true rfl) ?_
  refine r_eqM ?_ (loop (mn + 1) 0 (by omega) (by omega) none none none none none)
  rw [crack_0]
theorem s_whyOf (hM : MO Sh N o) {x y : Int32} (dp mn l : Nat) (hW : WF R dp mn) (hx : x = nI r) (hy : y = nI l) (hr : r < 36) (hl : l < 24) : Con E mX12_whyOf 3 0 0 [.ref o, .int x, .int y] Sh N G (mset M o r R) (P1 (some (.int (whyR R dp l))) Sh N (mset M o r R)) nox := by
  subst hx; subst hy
  obtain ⟨w0, w1, w2, w3, w4⟩ := hW
  have h0 := hM.1
  refine Con.ofQ (by decide +kernel) (by simp [Value.category]) (Nat.le_of_ble_eq_true rfl) (fun k C0 Q hQ => ?_)
  have C : CK k E mX12_whyOf kdX12_whyOf 3 0 0 := ⟨C0, kdX12_whyOf_ok⟩
  have loop : ∀ n c : Nat, c ≤ dp → dp - c < n → PT k E Q 0 0 Sh N G (mset M o r R) 11 [some (.ref o), some (.int (nI r)), some (.int (nI l)), some (.int (bI (anyB (fun c => decide (R (181 + (6 * l + c)) &&& nI 2 = nI 2)) c))), some (.int (bI (allB (fun c => decide (nI 180 ≤ R (37 + (6 * l + c)))) c))), some (.int (bI (anyB (fun c => decide (R (181 + (6 * l + c)) &&& nI 1 = nI 1)) c))), some (.int (nI c))] [] := by
    intro n
    induction n with
    | zero => intro i _ h; omega
    | succ n ih =>
      intro c hc hn
      refine r_iload C rfl rfl ?_
      refine r_aload_n C 0 rfl rfl rfl rfl ?_
      refine r_iload_n C 1 rfl rfl rfl ?_
      refine r_ic (v := nI 0) C rfl (by decide) ?_
      refine v2_r C rfl mfX12_of lk_X12_238 (by assumption) (s_of hM 0 rfl rfl hr (by decide)) ?_
      refine r_top (nI dp) w0 ?_
      refine r_icmp_ge C 82 rfl (by decide) (fun h => ?_) (fun h => ?_)
      · have h := le_nI (by omega) (by omega) h
        have e : c = dp := by omega
        subst e
        refine r_iload_n C 3 rfl rfl rfl ?_
        refine r_if_eq C 90 rfl (by decide) (fun h2 => ?_) (fun h2 => ?_)
        · refine r_iload C rfl rfl ?_
          refine r_if_eq C 99 rfl (by decide) (fun h3 => ?_) (fun h3 => ?_)
          · refine r_iload C rfl rfl ?_
            refine r_if_eq C 108 rfl (by decide) (fun h4 => ?_) (fun h4 => ?_)
            · refine r_ic (v := nI 4) C rfl (by decide) ?_
              exact q_iret C hQ rfl rfl rfl ⟨by simp only [whyR, bI_0 h2, bI_0 h3, bI_0 h4]; rfl, rfl, rfl, rfl⟩
            · refine r_ic (v := nI 3) C rfl (by decide) ?_
              refine r_goto C 109 rfl (by decide) ?_
              exact q_iret C hQ rfl rfl rfl ⟨by simp only [whyR, bI_0 h2, bI_0 h3, bI_1 h4]; rfl, rfl, rfl, rfl⟩
          · refine r_ic (v := nI 2) C rfl (by decide) ?_
            refine r_goto C 109 rfl (by decide) ?_
            exact q_iret C hQ rfl rfl rfl ⟨by simp only [whyR, bI_0 h2, bI_1 h3]; rfl, rfl, rfl, rfl⟩
        · refine r_ic (v := nI 1) C rfl (by decide) ?_
          refine r_goto C 109 rfl (by decide) ?_
          exact q_iret C hQ rfl rfl rfl ⟨by simp only [whyR, bI_1 h2]; rfl, rfl, rfl, rfl⟩
      · have h := nle_nI (by omega) (by omega) h
        have k60 : ∀ z : Int32, z = bI (decide (nI 180 ≤ R (37 + (6 * l + c)))) → PT k E Q 0 0 Sh N G (mset M o r R) 60 [some (.ref o), some (.int (nI r)), some (.int (nI l)), some (.int (bI (anyB (fun c => decide (R (181 + (6 * l + c)) &&& nI 2 = nI 2)) (c + 1)))), some (.int (bI (allB (fun c => decide (nI 180 ≤ R (37 + (6 * l + c)))) c))), some (.int (bI (anyB (fun c => decide (R (181 + (6 * l + c)) &&& nI 1 = nI 1)) c))), some (.int (nI c))] [.int z, .int (bI (allB (fun c => decide (nI 180 ≤ R (37 + (6 * l + c)))) c))] := by
          intro z hz
          subst hz
          refine r_iand C rfl ?_
          refine r_istore C rfl (by exact Nat.le_of_ble_eq_true rfl) ?_
          refine r_iload C rfl rfl ?_
          refine r_aload_n C 0 rfl rfl rfl rfl ?_
          refine r_iload_n C 1 rfl rfl rfl ?_
          refine r_iload_n C 2 rfl rfl rfl ?_
          refine r_iload C rfl rfl ?_
          refine v3_r C rfl mfX12_isCracked lk_X12_260 (by assumption) (s_isCracked hM l c rfl rfl rfl hr (by omega)) ?_
          refine r_ior C rfl ?_
          refine r_istore C rfl (by exact Nat.le_of_ble_eq_true rfl) ?_
          refine r_iinc (c := nI 1) C rfl rfl (by decide) ?_
          refine r_goto C 11 rfl (by decide) ?_
          refine r_eqL ?_ (ih (c + 1) (by omega) (by omega))
          simp only [bI_if, bI_or, bI_and, nI_add]
          rfl
        refine r_iload_n C 3 rfl rfl rfl ?_
        refine r_aload_n C 0 rfl rfl rfl rfl ?_
        refine r_iload_n C 1 rfl rfl rfl ?_
        refine r_iload_n C 2 rfl rfl rfl ?_
        refine r_iload C rfl rfl ?_
        refine v3_r C rfl mfX12_isHollow lk_X12_254 (by assumption) (s_isHollow hM l c rfl rfl rfl hr (by omega)) ?_
        refine r_ior C rfl ?_
        refine r_istore_n C 3 rfl rfl (by exact Nat.le_of_ble_eq_true rfl) ?_
        refine r_eqL (L' := [some (.ref o), some (.int (nI r)), some (.int (nI l)), some (.int (bI (anyB (fun c => decide (R (181 + (6 * l + c)) &&& nI 2 = nI 2)) (c + 1)))), some (.int (bI (allB (fun c => decide (nI 180 ≤ R (37 + (6 * l + c)))) c))), some (.int (bI (anyB (fun c => decide (R (181 + (6 * l + c)) &&& nI 1 = nI 1)) c))), some (.int (nI c))]) ?_ ?_
        · simp only [bI_if, bI_or]
          rfl
        refine r_iload C rfl rfl ?_
        refine r_aload_n C 0 rfl rfl rfl rfl ?_
        refine r_iload_n C 1 rfl rfl rfl ?_
        refine r_bi (v := nI 37) C rfl (by decide) ?_
        refine r_iload_n C 2 rfl rfl rfl ?_
        refine r_iload C rfl rfl ?_
        refine s2_r C rfl mfX12_at lk_X12_241 (c_X12_at l c rfl rfl) ?_
        refine r_iadd C rfl ?_
        refine v2_r C rfl mfX12_of lk_X12_238 (by assumption) (s_of hM (37 + (6 * l + c)) rfl (by rw [nI_add]) hr (by omega)) ?_
        refine r_si (v := nI 180) C rfl (by decide) ?_
        refine r_icmp_lt C 59 rfl (by decide) (fun h2 => ?_) (fun h2 => ?_)
        · refine r_ic (v := nI 0) C rfl (by decide) ?_
          exact k60 _ (by rw [decide_eq_false (Int32.not_le.mpr h2)]; rfl)
        · refine r_ic (v := nI 1) C rfl (by decide) ?_
          refine r_goto C 60 rfl (by decide) ?_
          exact k60 _ (by rw [decide_eq_true (Int32.not_lt.mp h2)]; rfl)
  refine r_ic (v := nI 0) C rfl (by decide) ?_
  refine r_istore_n C 3 rfl rfl (by exact Nat.le_of_ble_eq_true rfl) ?_
  refine r_ic (v := nI 1) C rfl (by decide) ?_
  refine r_istore C rfl (by exact Nat.le_of_ble_eq_true rfl) ?_
  refine r_ic (v := nI 0) C rfl (by decide) ?_
  refine r_istore C rfl (by exact Nat.le_of_ble_eq_true rfl) ?_
  refine r_ic (v := nI 0) C rfl (by decide) ?_
  refine r_istore C rfl (by exact Nat.le_of_ble_eq_true rfl) ?_
  exact loop (dp + 1) 0 (by omega) (by omega)
end MODEL7
