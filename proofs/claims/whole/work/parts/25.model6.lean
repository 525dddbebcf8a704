section MODEL6
theorem flowS_keep (w : Nat → Int32) (a b : Nat) (q : Int32) (R : Row) {j : Nat} (h : j < 37) : flowS w a b q R j = R j := by
  simp only [flowS, upd]
  rw [if_neg (by omega), if_neg (by omega)]
theorem flowS_w {w w' : Nat → Int32} {a b : Nat} (q : Int32) (R : Row) (ha : w a = w' a) (hb : w b = w' b) : flowS w a b q R = flowS w' a b q R := by
  simp only [flowS, ha, hb]
theorem moveS_keep (w : Nat → Int32) (dp mn l c : Nat) (R : Row) {j : Nat} (h : j < 37) : moveS w dp mn l c R j = R j := by
  simp only [moveS]
  split <;> split <;> simp only [flowS_keep _ _ _ _ _ h]
theorem moveI_keep (w : Nat → Int32) (dp mn l c : Nat) (R : Row) {j : Nat} (h : j < 37) : it (fun c => moveS w dp mn l c) c R j = R j := it_keep (fun i R => moveS_keep w dp mn l i R h) c R
theorem moveR_keep (w : Nat → Int32) (dp mn n : Nat) (R : Row) {j : Nat} (h : j < 37) : it (fun l => it (fun c => moveS w dp mn l c) dp) n R j = R j := it_keep (fun i R => moveI_keep w dp mn i dp R h) n R
theorem dryS_keep (air : Int32) (dp mn l c : Nat) (R : Row) {j : Nat} (h : j < 37) (h2 : j ≠ 12) : dryS air dp mn l c R j = R j := by
  simp only [dryS, upd]
  rw [if_neg h2, if_neg (by omega)]
theorem dryI_keep (air : Int32) (dp mn l c : Nat) (R : Row) {j : Nat} (h : j < 37) (h2 : j ≠ 12) : it (fun c => dryS air dp mn l c) c R j = R j := it_keep (fun i R => dryS_keep air dp mn l i R h h2) c R
theorem dryR_keep (air : Int32) (dp mn n : Nat) (R : Row) {j : Nat} (h : j < 37) (h2 : j ≠ 12) : it (fun l => it (fun c => dryS air dp mn l c) dp) n R j = R j := it_keep (fun i R => dryI_keep air dp mn i dp R h h2) n R
theorem aset_up (M : MM) (o r a i : Nat) (R : Row) (F : Nat → Int32) (v : Int32) (h : a ≠ o + 1) : up (mset (aset M a F) o r R) a i v = mset (aset M a (upd F i v)) o r R := by
  funext x y
  simp only [up, mset, aset, upd]
  grind
variable {E : VE} {Sh : Nat → SE} {N : Nat} {G : Bool} {M : MM} {o r : Nat} {R : Row}
/-- what 'now' holds behind see() -/
def seeF (R : Row) (F : Nat → Int32) (i : Nat) : Nat → Int32 := fun j => if j < i then R (37 + j) else F j
theorem seeF_up (R : Row) (F : Nat → Int32) (i : Nat) : upd (seeF R F i) i (R (37 + i)) = seeF R F (i + 1) := by
  funext j
  simp only [upd, seeF]
  grind
theorem seeF_in (R : Row) (F : Nat → Int32) {i j : Nat} (h : j < i) : seeF R F i j = R (37 + j) := if_pos h
theorem s_see (hM : MO Sh N o) {x : Int32} (hx : x = nI r) (hr : r < 36) : Con E mX12_see 2 0 0 [.ref o, .int x] Sh N G (mset M o r R) (P1 none Sh N (mset (aset M (o + 3) (seeF R (M (o + 3)) 144)) o r R)) nox := by
  subst hx
  have h0 := hM.1
  have h1 := hM.ar 2 rfl
  refine Con.ofQ (by decide +kernel) (by simp [Value.category]) (Nat.le_of_ble_eq_true rfl) (fun k C0 Q hQ => ?_)
  have C : CK k E mX12_see kdX12_see 2 0 0 := ⟨C0, kdX12_see_ok⟩
  have loop : ∀ n i : Nat, i ≤ 144 → 144 - i < n → PT k E Q 0 0 Sh N G (mset (aset M (o + 3) (seeF R (M (o + 3)) i)) o r R) 2 [some (.ref o), some (.int (nI r)), some (.int (nI i))] [] := by
    intro n
    induction n with
    | zero => intro i _ h; omega
    | succ n ih =>
      intro i hi hn
      refine r_iload_n C 2 rfl rfl rfl ?_
      refine r_si (v := nI 144) C rfl (by decide) ?_
      refine r_icmp_ge C 30 rfl (by decide) (fun h => ?_) (fun h => ?_)
      · have h := le_nI (by omega) (by omega) h
        have e : i = 144 := by omega
        subst e
        exact q_vret C hQ rfl rfl ⟨rfl, rfl, rfl, rfl⟩
      · have h := nle_nI (by omega) (by omega) h
        refine r_aload_n C 0 rfl rfl rfl rfl ?_
        refine r_getv C rfl f_X12_16 (by assumption) rfl ?_
        refine r_iload_n C 2 rfl rfl rfl ?_
        refine r_aload_n C 0 rfl rfl rfl rfl ?_
        refine r_iload_n C 1 rfl rfl rfl ?_
        refine r_bi (v := nI 37) C rfl (by decide) ?_
        refine r_iload_n C 2 rfl rfl rfl ?_
        refine r_iadd C rfl ?_
        refine v2_r C rfl mfX12_of lk_X12_238 (by assumption) (s_of hM (37 + i) rfl (by rw [nI_add]) hr (by omega)) ?_
        refine r_iast C rfl (by assumption) (i) rfl (by omega) (by decide) ?_
        refine r_iinc (c := nI 1) C rfl rfl (by decide) ?_
        refine r_goto C 2 rfl (by decide) ?_
        refine r_eqM ?_ (r_eqL ?_ (ih (i + 1) (by omega) (by omega)))
        · rw [aset_up _ _ _ _ _ _ _ _ (by omega), seeF_up]
        · first | rfl | (simp only [sm, add3, nI_add, Int32.add_zero, Int32.zero_add]; rfl)
  refine r_ic (v := nI 0) C rfl (by decide) ?_
  refine r_istore_n C 2 rfl rfl (by exact Nat.le_of_ble_eq_true rfl) ?_
  refine r_eqM ?_ (loop 145 0 (by omega) (by omega))
  rw [show seeF R (M (o + 3)) 0 = M (o + 3) from funext (fun j => if_neg (Nat.not_lt_zero j)), aset_self]
theorem s_move (hM : MO Sh N o) {x : Int32} (dp mn : Nat) (hW : WF R dp mn) (hx : x = nI r) (hr : r < 36) : Con E mX12_move 3 0 0 [.ref o, .int x] Sh N G (mset M o r R) (P1 none Sh N (mset (aset M (o + 3) (seeF R (M (o + 3)) 144)) o r (moveR (fun j => R (37 + j)) dp mn R))) nox := by
  subst hx
  obtain ⟨w0, w1, w2, w3, w4⟩ := hW
  have h0 := hM.1
  refine Con.ofQ (by decide +kernel) (by simp [Value.category]) (Nat.le_of_ble_eq_true rfl) (fun k C0 Q hQ => ?_)
  have C : CK k E mX12_move kdX12_move 3 0 0 := ⟨C0, kdX12_move_ok⟩
  refine r_aload_n C 0 rfl rfl rfl rfl ?_
  refine r_iload_n C 1 rfl rfl rfl ?_
  refine v1_v C rfl mfX12_see lk_X12_292 (by assumption) (s_see hM rfl hr) ?_
  refine r_ic (v := nI 0) C rfl (by decide) ?_
  refine r_istore_n C 2 rfl rfl (by exact Nat.le_of_ble_eq_true rfl) ?_
  have hfl : ∀ (a b : Nat) (q : Int32) (R' : Row), a < 144 → b < 144 → flowS (aset M (o + 3) (seeF R (M (o + 3)) 144) (o + 3)) a b q R' = flowS (fun j => R (37 + j)) a b q R' := fun a b q R' ha hb => by
    rw [aset_own]
    exact flowS_w q R' (seeF_in R _ ha) (seeF_in R _ hb)
  generalize hM1 : aset M (o + 3) (seeF R (M (o + 3)) 144) = M1 at hfl hQ ⊢
  have inner : ∀ (l : Nat) (R' : Row), l < mn → R' 0 = nI dp → R' 1 = nI mn → (PT k E Q 0 0 Sh N G (mset M1 o r (it (fun c => moveS (fun j => R (37 + j)) dp mn l c) dp R')) 96 [some (.ref o), some (.int (nI r)), some (.int (nI l)), some (.int (nI dp))] []) → ∀ n c : Nat, c ≤ dp → dp - c < n → PT k E Q 0 0 Sh N G (mset M1 o r (it (fun c => moveS (fun j => R (37 + j)) dp mn l c) c R')) 19 [some (.ref o), some (.int (nI r)), some (.int (nI l)), some (.int (nI c))] [] := by
    intro l R' hl e0 e1 kk
    intro n
    induction n with
    | zero => intro i _ h; omega
    | succ n ih =>
      intro c hc hn
      have hk0 := (moveI_keep (fun j => R (37 + j)) dp mn l c R' (j := 0) (by decide)).trans e0
      have hk1 := (moveI_keep (fun j => R (37 + j)) dp mn l c R' (j := 1) (by decide)).trans e1
      have hih := fun h1 h2 => ih (c + 1) h1 h2
      rw [it] at hih
      obtain ⟨R2, hR2⟩ : ∃ R2, R2 = it (fun c => moveS (fun j => R (37 + j)) dp mn l c) c R' := ⟨_, rfl⟩
      rw [← hR2] at hk0 hk1 hih ⊢
      refine r_iload_n C 3 rfl rfl rfl ?_
      refine r_aload_n C 0 rfl rfl rfl rfl ?_
      refine r_iload_n C 1 rfl rfl rfl ?_
      refine r_ic (v := nI 0) C rfl (by decide) ?_
      refine v2_r C rfl mfX12_of lk_X12_238 (by assumption) (s_of hM 0 rfl rfl hr (by decide)) ?_
      refine r_top (nI dp) hk0 ?_
      refine r_icmp_ge C 96 rfl (by decide) (fun h => ?_) (fun h => ?_)
      · have h := le_nI (by omega) (by omega) h
        have e : c = dp := by omega
        subst e
        rw [hR2]
        exact kk
      have h := nle_nI (by omega) (by omega) h
      have k90 : ∀ R4 : Row, R4 = moveS (fun j => R (37 + j)) dp mn l c R2 → PT k E Q 0 0 Sh N G (mset M1 o r R4) 90 [some (.ref o), some (.int (nI r)), some (.int (nI l)), some (.int (nI c))] [] := by
        intro R4 hR4
        subst hR4
        refine r_iinc (c := nI 1) C rfl rfl (by decide) ?_
        refine r_goto C 19 rfl (by decide) ?_
        refine r_eqL ?_ (hih (by omega) (by omega))
        first | rfl | (simp only [sm, add3, nI_add, Int32.add_zero, Int32.zero_add]; rfl)
      have k59 : ∀ R3 : Row, R3 = (if c + 1 < dp then flowS (fun j => R (37 + j)) (6 * l + c) (6 * l + (c + 1)) (nI 4) R2 else R2) → PT k E Q 0 0 Sh N G (mset M1 o r R3) 59 [some (.ref o), some (.int (nI r)), some (.int (nI l)), some (.int (nI c))] [] := by
        intro R3 hR3
        have hk : R3 1 = nI mn := by
          rw [hR3]
          split
          · rw [flowS_keep _ _ _ _ _ (by decide)]; exact hk1
          · exact hk1
        refine r_iload_n C 2 rfl rfl rfl ?_
        refine r_ic (v := nI 1) C rfl (by decide) ?_
        refine r_iadd C rfl ?_
        refine r_aload_n C 0 rfl rfl rfl rfl ?_
        refine r_iload_n C 1 rfl rfl rfl ?_
        refine r_ic (v := nI 1) C rfl (by decide) ?_
        refine v2_r C rfl mfX12_of lk_X12_238 (by assumption) (s_of hM 1 rfl rfl hr (by decide)) ?_
        refine r_top (nI mn) hk ?_
        refine r_icmp_ge C 90 rfl (by decide) (fun h2 => ?_) (fun h2 => ?_)
        · rw [nI_add] at h2
          have h2 := le_nI (by omega) (by omega) h2
          refine k90 _ ?_
          simp only [moveS]
          rw [if_neg (by omega), hR3]
        · rw [nI_add] at h2
          have h2 := nle_nI (by omega) (by omega) h2
          refine r_aload_n C 0 rfl rfl rfl rfl ?_
          refine r_iload_n C 1 rfl rfl rfl ?_
          refine r_iload_n C 2 rfl rfl rfl ?_
          refine r_iload_n C 3 rfl rfl rfl ?_
          refine s2_r C rfl mfX12_at lk_X12_241 (c_X12_at l c rfl rfl) ?_
          refine r_iload_n C 2 rfl rfl rfl ?_
          refine r_ic (v := nI 1) C rfl (by decide) ?_
          refine r_iadd C rfl ?_
          refine r_iload_n C 3 rfl rfl rfl ?_
          refine s2_r C rfl mfX12_at lk_X12_241 (c_X12_at (l + 1) c (by rw [nI_add]) rfl) ?_
          refine r_bi (v := nI 8) C rfl (by decide) ?_
          refine v4_v C rfl mfX12_flow lk_X12_295 (by assumption) (s_flow hM (6 * l + c) (6 * (l + 1) + c) rfl rfl rfl hr (by omega) (by omega) (by decide)) ?_
          refine k90 _ ?_
          rw [hfl _ _ _ _ (by omega) (by omega)]
          simp only [moveS]
          rw [if_pos h2, hR3]
      refine r_iload_n C 3 rfl rfl rfl ?_
      refine r_ic (v := nI 1) C rfl (by decide) ?_
      refine r_iadd C rfl ?_
      refine r_aload_n C 0 rfl rfl rfl rfl ?_
      refine r_iload_n C 1 rfl rfl rfl ?_
      refine r_ic (v := nI 0) C rfl (by decide) ?_
      refine v2_r C rfl mfX12_of lk_X12_238 (by assumption) (s_of hM 0 rfl rfl hr (by decide)) ?_
      refine r_top (nI dp) hk0 ?_
      refine r_icmp_ge C 59 rfl (by decide) (fun h2 => ?_) (fun h2 => ?_)
      · rw [nI_add] at h2
        have h2 := le_nI (by omega) (by omega) h2
        exact k59 _ (by rw [if_neg (by omega)])
      · rw [nI_add] at h2
        have h2 := nle_nI (by omega) (by omega) h2
        refine r_aload_n C 0 rfl rfl rfl rfl ?_
        refine r_iload_n C 1 rfl rfl rfl ?_
        refine r_iload_n C 2 rfl rfl rfl ?_
        refine r_iload_n C 3 rfl rfl rfl ?_
        refine s2_r C rfl mfX12_at lk_X12_241 (c_X12_at l c rfl rfl) ?_
        refine r_iload_n C 2 rfl rfl rfl ?_
        refine r_iload_n C 3 rfl rfl rfl ?_
        refine r_ic (v := nI 1) C rfl (by decide) ?_
        refine r_iadd C rfl ?_
        refine s2_r C rfl mfX12_at lk_X12_241 (c_X12_at l (c + 1) rfl (by rw [nI_add])) ?_
        refine r_ic (v := nI 4) C rfl (by decide) ?_
        refine v4_v C rfl mfX12_flow lk_X12_295 (by assumption) (s_flow hM (6 * l + c) (6 * l + (c + 1)) rfl rfl rfl hr (by omega) (by omega) (by decide)) ?_
        exact k59 _ (by rw [hfl _ _ _ _ (by omega) (by omega), if_pos h2])
  have loop : ∀ n i : Nat, i ≤ mn → mn - i < n → ∀ v : Option Value, PT k E Q 0 0 Sh N G (mset M1 o r (it (fun l => it (fun c => moveS (fun j => R (37 + j)) dp mn l c) dp) i R)) 7 [some (.ref o), some (.int (nI r)), some (.int (nI i)), v] [] := by
    intro n
    induction n with
    | zero => intro i _ h; omega
    | succ n ih =>
      intro i hi hn v
      have hk0 := (moveR_keep (fun j => R (37 + j)) dp mn i R (j := 0) (by decide)).trans w0
      have hk1 := (moveR_keep (fun j => R (37 + j)) dp mn i R (j := 1) (by decide)).trans w3
      refine r_iload_n C 2 rfl rfl rfl ?_
      refine r_aload_n C 0 rfl rfl rfl rfl ?_
      refine r_iload_n C 1 rfl rfl rfl ?_
      refine r_ic (v := nI 1) C rfl (by decide) ?_
      refine v2_r C rfl mfX12_of lk_X12_238 (by assumption) (s_of hM 1 rfl rfl hr (by decide)) ?_
      refine r_top (nI mn) hk1 ?_
      refine r_icmp_ge C 102 rfl (by decide) (fun h => ?_) (fun h => ?_)
      · have h := le_nI (by omega) (by omega) h
        have e : i = mn := by omega
        subst e
        exact q_vret C hQ rfl rfl ⟨rfl, rfl, rfl, rfl⟩
      · have h := nle_nI (by omega) (by omega) h
        refine r_ic (v := nI 0) C rfl (by decide) ?_
        refine r_istore_n C 3 rfl rfl (by exact Nat.le_of_ble_eq_true rfl) ?_
        refine r_eqL ?_ (inner i _ h hk0 hk1 ?_ (dp + 1) 0 (by omega) (by omega))
        · first | rfl | (simp only [sm, add3, nI_add, Int32.add_zero, Int32.zero_add]; rfl)
        refine r_iinc (c := nI 1) C rfl rfl (by decide) ?_
        refine r_goto C 7 rfl (by decide) ?_
        refine r_eqL ?_ (ih (i + 1) (by omega) (by omega) (some (.int (nI dp))))
        first | rfl | (simp only [sm, add3, nI_add, Int32.add_zero, Int32.zero_add]; rfl)
  exact loop (mn + 1) 0 (by omega) (by omega) none
theorem s_dry (hM : MO Sh N o) {x air : Int32} (dp mn : Nat) (hW : WF R dp mn) (hx : x = nI r) (hr : r < 36) : Con E mX12_dry 2 0 0 [.ref o, .int x, .int air] Sh N G (mset M o r R) (P1 none Sh N (mset M o r (dryR air dp mn R))) nox := by
  subst hx
  obtain ⟨w0, w1, w2, w3, w4⟩ := hW
  have h0 := hM.1
  refine Con.ofQ (by decide +kernel) (by simp [Value.category]) (Nat.le_of_ble_eq_true rfl) (fun k C0 Q hQ => ?_)
  have C : CK k E mX12_dry kdX12_dry 2 0 0 := ⟨C0, kdX12_dry_ok⟩
  have inner : ∀ (l : Nat) (R' : Row) (v5 v6 v7 : Option Value), l < mn → R' 0 = nI dp → R' 1 = nI mn → (∀ v5 v6 v7 : Option Value, PT k E Q 0 0 Sh N G (mset M o r (it (fun c => dryS air dp mn l c) dp R')) 175 [some (.ref o), some (.int (nI r)), some (.int air), some (.int (nI l)), some (.int (nI dp)), v5, v6, v7] []) → ∀ n c : Nat, c ≤ dp → dp - c < n → ∀ v5 v6 v7 : Option Value, PT k E Q 0 0 Sh N G (mset M o r (it (fun c => dryS air dp mn l c) c R')) 15 [some (.ref o), some (.int (nI r)), some (.int air), some (.int (nI l)), some (.int (nI c)), v5, v6, v7] [] := by
    intro l R' _ _ _ hl e0 e1 kk
    intro n
    induction n with
    | zero => intro i _ h; omega
    | succ n ih =>
      intro c hc hn v5 v6 v7
      have hk0 := (dryI_keep air dp mn l c R' (j := 0) (by decide) (by decide)).trans e0
      have hk1 := (dryI_keep air dp mn l c R' (j := 1) (by decide) (by decide)).trans e1
      have hih := fun h1 h2 => ih (c + 1) h1 h2
      rw [it] at hih
      obtain ⟨R2, hR2⟩ : ∃ R2, R2 = it (fun c => dryS air dp mn l c) c R' := ⟨_, rfl⟩
      rw [← hR2] at hk0 hk1 hih ⊢
      refine r_iload C rfl rfl ?_
      refine r_aload_n C 0 rfl rfl rfl rfl ?_
      refine r_iload_n C 1 rfl rfl rfl ?_
      refine r_ic (v := nI 0) C rfl (by decide) ?_
      refine v2_r C rfl mfX12_of lk_X12_238 (by assumption) (s_of hM 0 rfl rfl hr (by decide)) ?_
      refine r_top (nI dp) hk0 ?_
      refine r_icmp_ge C 175 rfl (by decide) (fun h => ?_) (fun h => ?_)
      · have h := le_nI (by omega) (by omega) h
        have e : c = dp := by omega
        subst e
        rw [hR2]
        exact kk v5 v6 v7
      have h := nle_nI (by omega) (by omega) h
      have k87 : ∀ z : Int32, z = dryN R2 dp mn l c → PT k E Q 0 0 Sh N G (mset M o r R2) 87 [some (.ref o), some (.int (nI r)), some (.int air), some (.int (nI l)), some (.int (nI c)), v5, v6, v7] [.int z] := by
        intro z hz
        refine r_istore C rfl (by exact Nat.le_of_ble_eq_true rfl) ?_
        refine r_bi (v := nI 37) C rfl (by decide) ?_
        refine r_iload_n C 3 rfl rfl rfl ?_
        refine r_iload C rfl rfl ?_
        refine s2_r C rfl mfX12_at lk_X12_241 (c_X12_at l c rfl rfl) ?_
        refine r_iadd C rfl ?_
        refine r_top (nI (37 + (6 * l + c))) (by rw [nI_add]) ?_
        refine r_istore C rfl (by exact Nat.le_of_ble_eq_true rfl) ?_
        refine r_aload_n C 0 rfl rfl rfl rfl ?_
        refine r_iload_n C 1 rfl rfl rfl ?_
        refine r_iload C rfl rfl ?_
        refine v2_r C rfl mfX12_of lk_X12_238 (by assumption) (s_of hM (37 + (6 * l + c)) rfl rfl hr (by omega)) ?_
        refine r_ic (v := nI 0) C rfl (by decide) ?_
        refine r_aload_n C 0 rfl rfl rfl rfl ?_
        refine r_iload_n C 1 rfl rfl rfl ?_
        refine r_iload C rfl rfl ?_
        refine v2_r C rfl mfX12_of lk_X12_238 (by assumption) (s_of hM (37 + (6 * l + c)) rfl rfl hr (by omega)) ?_
        refine r_bi (v := nI 100) C rfl (by decide) ?_
        refine r_isub C rfl ?_
        refine r_max C rfl lk_X12_257 ?_
        refine r_iload_n C 2 rfl rfl rfl ?_
        refine r_imul C rfl ?_
        refine r_iload C rfl rfl ?_
        refine r_imul C rfl ?_
        refine r_si (v := nI 20000) C rfl (by decide) ?_
        refine r_idiv C rfl (by decide) ?_
        refine r_min C rfl lk_X12_130 ?_
        refine r_istore C rfl (by exact Nat.le_of_ble_eq_true rfl) ?_
        refine r_aload_n C 0 rfl rfl rfl rfl ?_
        refine r_iload_n C 1 rfl rfl rfl ?_
        refine r_iload C rfl rfl ?_
        refine r_aload_n C 0 rfl rfl rfl rfl ?_
        refine r_iload_n C 1 rfl rfl rfl ?_
        refine r_iload C rfl rfl ?_
        refine v2_r C rfl mfX12_of lk_X12_238 (by assumption) (s_of hM (37 + (6 * l + c)) rfl rfl hr (by omega)) ?_
        refine r_iload C rfl rfl ?_
        refine r_isub C rfl ?_
        refine v3_v C rfl mfX12_put lk_X12_175 (by assumption) (s_put hM (37 + (6 * l + c)) rfl rfl hr (by omega)) ?_
        refine r_aload_n C 0 rfl rfl rfl rfl ?_
        refine r_iload_n C 1 rfl rfl rfl ?_
        refine r_bi (v := nI 12) C rfl (by decide) ?_
        refine r_aload_n C 0 rfl rfl rfl rfl ?_
        refine r_iload_n C 1 rfl rfl rfl ?_
        refine r_bi (v := nI 12) C rfl (by decide) ?_
        refine v2_r C rfl mfX12_of lk_X12_238 (by assumption) (s_of hM 12 rfl rfl hr (by decide)) ?_
        refine r_iload C rfl rfl ?_
        refine r_iadd C rfl ?_
        refine v3_v C rfl mfX12_put lk_X12_175 (by assumption) (s_put hM 12 rfl rfl hr (by decide)) ?_
        refine r_iinc (c := nI 1) C rfl rfl (by decide) ?_
        refine r_goto C 15 rfl (by decide) ?_
        refine r_eqM ?_ (r_eqL ?_ (hih (by omega) (by omega) (some (.int z)) (some (.int (nI (37 + (6 * l + c))))) (some (.int (dryV R2 air dp mn l c)))))
        · rw [hz]
          congr 1
          simp only [dryS]
          congr 1
          simp only [upd]
          rw [if_neg (by omega)]
          rfl
        · subst hz
          first | rfl | (simp only [sm, add3, nI_add, Int32.add_zero, Int32.zero_add]; rfl)
      have k67 : ∀ z1 z2 : Int32, z1 = (if c = 0 then R2 5 else 0) → z2 = (if c = dp - 1 then R2 6 / nI 2 else 0) → PT k E Q 0 0 Sh N G (mset M o r R2) 67 [some (.ref o), some (.int (nI r)), some (.int air), some (.int (nI l)), some (.int (nI c)), v5, v6, v7] [.int z2, .int z1] := by
        intro z1 z2 hz1 hz2
        refine r_iadd C rfl ?_
        refine r_iload_n C 3 rfl rfl rfl ?_
        refine r_aload_n C 0 rfl rfl rfl rfl ?_
        refine r_iload_n C 1 rfl rfl rfl ?_
        refine r_ic (v := nI 1) C rfl (by decide) ?_
        refine v2_r C rfl mfX12_of lk_X12_238 (by assumption) (s_of hM 1 rfl rfl hr (by decide)) ?_
        refine r_top (nI mn) hk1 ?_
        refine r_ic (v := nI 1) C rfl (by decide) ?_
        refine r_isub C rfl ?_
        refine r_top (nI (mn - 1)) (pk_sub (by omega)) ?_
        refine r_icmp_ne C 85 rfl (by decide) (fun h2 => ?_) (fun h2 => ?_)
        · refine r_ic (v := nI 0) C rfl (by decide) ?_
          refine r_iadd C rfl ?_
          refine k87 _ ?_
          rw [dryN, ← hz1, ← hz2, if_neg (fun q => h2 (by rw [q]))]
          rfl
        · have h2 := (nI_eq (by omega) (by omega)).mp h2
          refine r_bi (v := nI 50) C rfl (by decide) ?_
          refine r_goto C 86 rfl (by decide) ?_
          refine r_iadd C rfl ?_
          refine k87 _ ?_
          rw [dryN, ← hz1, ← hz2, if_pos h2]
      have k41 : ∀ z1 : Int32, z1 = (if c = 0 then R2 5 else 0) → PT k E Q 0 0 Sh N G (mset M o r R2) 41 [some (.ref o), some (.int (nI r)), some (.int air), some (.int (nI l)), some (.int (nI c)), v5, v6, v7] [.int z1] := by
        intro z1 hz1
        refine r_iload C rfl rfl ?_
        refine r_aload_n C 0 rfl rfl rfl rfl ?_
        refine r_iload_n C 1 rfl rfl rfl ?_
        refine r_ic (v := nI 0) C rfl (by decide) ?_
        refine v2_r C rfl mfX12_of lk_X12_238 (by assumption) (s_of hM 0 rfl rfl hr (by decide)) ?_
        refine r_top (nI dp) hk0 ?_
        refine r_ic (v := nI 1) C rfl (by decide) ?_
        refine r_isub C rfl ?_
        refine r_top (nI (dp - 1)) (pk_sub (by omega)) ?_
        refine r_icmp_ne C 66 rfl (by decide) (fun h2 => ?_) (fun h2 => ?_)
        · refine r_ic (v := nI 0) C rfl (by decide) ?_
          exact k67 _ _ hz1 (by rw [if_neg (fun q => h2 (by rw [q]))]; rfl)
        · have h2 := (nI_eq (by omega) (by omega)).mp h2
          refine r_aload_n C 0 rfl rfl rfl rfl ?_
          refine r_iload_n C 1 rfl rfl rfl ?_
          refine r_bi (v := nI 6) C rfl (by decide) ?_
          refine v2_r C rfl mfX12_of lk_X12_238 (by assumption) (s_of hM 6 rfl rfl hr (by decide)) ?_
          refine r_ic (v := nI 2) C rfl (by decide) ?_
          refine r_idiv C rfl (by decide) ?_
          refine r_goto C 67 rfl (by decide) ?_
          exact k67 _ _ hz1 (by rw [if_pos h2])
      refine r_iload C rfl rfl ?_
      refine r_if_ne C 40 rfl (by decide) (fun h2 => ?_) (fun h2 => ?_)
      · refine r_ic (v := nI 0) C rfl (by decide) ?_
        exact k41 _ (by rw [if_neg (fun q => h2 (by rw [q]; rfl))]; rfl)
      · have h2 : c = 0 := (nI_eq (b := 0) (by omega) (by omega)).mp h2
        refine r_aload_n C 0 rfl rfl rfl rfl ?_
        refine r_iload_n C 1 rfl rfl rfl ?_
        refine r_ic (v := nI 5) C rfl (by decide) ?_
        refine v2_r C rfl mfX12_of lk_X12_238 (by assumption) (s_of hM 5 rfl rfl hr (by decide)) ?_
        refine r_goto C 41 rfl (by decide) ?_
        exact k41 _ (by rw [if_pos h2])
  have loop : ∀ n i : Nat, i ≤ mn → mn - i < n → ∀ v4 v5 v6 v7 : Option Value, PT k E Q 0 0 Sh N G (mset M o r (it (fun l => it (fun c => dryS air dp mn l c) dp) i R)) 2 [some (.ref o), some (.int (nI r)), some (.int air), some (.int (nI i)), v4, v5, v6, v7] [] := by
    intro n
    induction n with
    | zero => intro i _ h; omega
    | succ n ih =>
      intro i hi hn v4 v5 v6 v7
      have hk0 := (dryR_keep air dp mn i R (j := 0) (by decide) (by decide)).trans w0
      have hk1 := (dryR_keep air dp mn i R (j := 1) (by decide) (by decide)).trans w3
      refine r_iload_n C 3 rfl rfl rfl ?_
      refine r_aload_n C 0 rfl rfl rfl rfl ?_
      refine r_iload_n C 1 rfl rfl rfl ?_
      refine r_ic (v := nI 1) C rfl (by decide) ?_
      refine v2_r C rfl mfX12_of lk_X12_238 (by assumption) (s_of hM 1 rfl rfl hr (by decide)) ?_
      refine r_top (nI mn) hk1 ?_
      refine r_icmp_ge C 181 rfl (by decide) (fun h => ?_) (fun h => ?_)
      · have h := le_nI (by omega) (by omega) h
        have e : i = mn := by omega
        subst e
        exact q_vret C hQ rfl rfl ⟨rfl, rfl, rfl, rfl⟩
      · have h := nle_nI (by omega) (by omega) h
        refine r_ic (v := nI 0) C rfl (by decide) ?_
        refine r_istore C rfl (by exact Nat.le_of_ble_eq_true rfl) ?_
        refine r_eqL ?_ (inner i _ v5 v6 v7 h hk0 hk1 (fun v5 v6 v7 => ?_) (dp + 1) 0 (by omega) (by omega) v5 v6 v7)
        · first | rfl | (simp only [sm, add3, nI_add, Int32.add_zero, Int32.zero_add]; rfl)
        refine r_iinc (c := nI 1) C rfl rfl (by decide) ?_
        refine r_goto C 2 rfl (by decide) ?_
        refine r_eqL ?_ (ih (i + 1) (by omega) (by omega) (some (.int (nI dp))) v5 v6 v7)
        first | rfl | (simp only [sm, add3, nI_add, Int32.add_zero, Int32.zero_add]; rfl)
  refine r_ic (v := nI 0) C rfl (by decide) ?_
  refine r_istore_n C 3 rfl rfl (by exact Nat.le_of_ble_eq_true rfl) ?_
  exact loop (mn + 1) 0 (by omega) (by omega) none none none none
end MODEL6
