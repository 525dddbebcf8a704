section LCASE
variable {k : MC} {E : VE} {d mc ms : Nat} {Q : State → Prop} {cm sm : Nat} {Sh : Nat → SE} {M : MM} {xs : List Int32} {i b tx : Nat} {x : ST} {a c : Option Value}
theorem lc_feed (X : CX k E mL_law d mc ms) (hX : SCR k E xs) (hd : 22 < d) (hi : 6 * i + 6 ≤ xs.length) (hn : xs.length ≤ 3072) (hI : LInv Sh M b x tx) (hb : b < 2 ^ 25) (h1 : 8 ≤ cm) (h2 : 48 ≤ sm) (kk : LGo k E Q i b (cm - 8) (sm - 48)) : PT k E Q cm sm Sh 154 false M 176 (Lw i a c) [] := by
  obtain ⟨hV, hU, hM, ho, hC, hR⟩ := hI
  have u0 := hU.1
  have m0 := hM.1
  have C : CK k E mL_law kdW_feed d mc ms := ⟨X, kdW_feed_ok⟩
  refine r_aload_n C 1 rfl rfl rfl rfl ?_
  refine r_arg C hX 1 hi hn rfl rfl rfl rfl rfl (by decide) (by decide) ?_
  refine r_arg C hX 2 hi hn rfl rfl rfl rfl rfl (by decide) (by decide) ?_
  refine r_arg C hX 3 hi hn rfl rfl rfl rfl rfl (by decide) (by decide) ?_
  refine r_arg C hX 4 hi hn rfl rfl rfl rfl rfl (by decide) (by decide) ?_
  refine r_arg C hX 5 hi hn rfl rfl rfl rfl rfl (by decide) (by decide) ?_
  refine v5_g C rfl mfX11_feed lk_L_92 u0 (K_feed hU hV hC _ _ _ _ _) ?_
  rintro r M1 ⟨-, rfl, hC1, hF1⟩
  have hR1 : RI M1 131 x := hR.low hV (fun c h3 h4 => hF1 c h3)
  refine r_aload_n C 2 rfl rfl rfl rfl ?_
  refine r_arg C hX 1 hi hn rfl rfl rfl rfl rfl (by decide) (by decide) ?_
  refine r_arg C hX 2 hi hn rfl rfl rfl rfl rfl (by decide) (by decide) ?_
  refine r_arg C hX 3 hi hn rfl rfl rfl rfl rfl (by decide) (by decide) ?_
  refine r_arg C hX 4 hi hn rfl rfl rfl rfl rfl (by decide) (by decide) ?_
  refine r_arg C hX 5 hi hn rfl rfl rfl rfl rfl (by decide) (by decide) ?_
  refine v5_g C rfl mfX12_feed lk_L_96 m0 (R_feed hM hV hR1 _ _ _ _ _) ?_
  rintro v M2 ⟨rfl, c2, hR2, hF2⟩
  have hC2 := hC1.below (M' := M2) (fun c hc => hF2 c (Or.inl hc))
  refine r_icmp_eq C 1917 rfl (by decide) (fun _ => ?_) (fun h => absurd rfl h)
  refine r_room (cm - 8) (sm - 48) (Nat.sub_le _ _) (Nat.sub_le _ _) ?_
  exact kk _ _ _ _ a c ⟨vi_feed hV _ _ _ _ _, hU, hM, ho, hC2, hR2⟩
theorem lc_yard (X : CX k E mL_law d mc ms) (hX : SCR k E xs) (hd : 22 < d) (hi : 6 * i + 6 ≤ xs.length) (hn : xs.length ≤ 3072) (hI : LInv Sh M b x tx) (hb : b < 2 ^ 25) (h1 : 8 ≤ cm) (h2 : 48 ≤ sm) (kk : LGo k E Q i b (cm - 8) (sm - 48)) : PT k E Q cm sm Sh 154 false M 249 (Lw i a c) [] := by
  obtain ⟨hV, hU, hM, ho, hC, hR⟩ := hI
  have u0 := hU.1
  have m0 := hM.1
  have C : CK k E mL_law kdW_yard d mc ms := ⟨X, kdW_yard_ok⟩
  obtain ⟨tr, wk, h8, h9, hDV⟩ := hC.2.2.2.1
  refine r_aload_n C 1 rfl rfl rfl rfl ?_
  refine r_arg C hX 1 hi hn rfl rfl rfl rfl rfl (by decide) (by decide) ?_
  refine r_aload_n C 3 rfl rfl rfl rfl ?_
  refine r_callSH (As := [.ref 0, .int (xs.getD (6 * i + 1) 0), .ref 153]) (rest := []) C rfl mhL_yard lk_L_97 (W_yard hU ho hV hC _ h8 h9 hDV) rfl rfl hd (Nat.le_of_ble_eq_true rfl) h1 h2 ?_
  rintro r S1 N1 M1 ⟨rfl, hS1, rfl, hC1, ha1, hF1⟩
  have hc2 := yard_c2 (x := x) (xs.getD (6 * i + 1) 0) tr wk
  have hs1 : ∀ c, 131 ≤ c → S1 c = Sh c := fun c hc => by rcases hS1 with rfl | rfl; rfl; exact shUp_ne (by omega)
  obtain ⟨tx1, hU1⟩ : ∃ t, MU S1 154 t := by rcases hS1 with rfl | rfl; exact ⟨_, hU⟩; exact ⟨_, hU.read⟩
  have hM1 : MO S1 154 131 := hM.over (fun c q1 _ => hs1 c q1) (Nat.le_refl _)
  have ho1 : At S1 154 153 (arE 3 1) := ⟨ho.1, (hs1 153 (by decide)).trans ho.2⟩
  have m1 := hM1.1
  have hR1 : RI M1 131 x := hR.low hV (fun c h3 h4 => hF1 c h3 (by omega))
  refine r_istore C rfl (by exact Nat.le_of_ble_eq_true rfl) ?_
  refine r_aload_n C 2 rfl rfl rfl rfl ?_
  refine r_arg C hX 1 hi hn rfl rfl rfl rfl rfl (by decide) (by decide) ?_
  refine v1_g C rfl mfX12_yard lk_L_102 m1 (R_yard hM1 hV hR1 _ hDV (yard_to _ _ _ _)) ?_
  rintro v M2 ⟨rfl, c2, hR2, hF2⟩
  have hC2 := hC1.below (M' := M2) (fun c hc => hF2 c (Or.inl hc))
  have e2 := congrFun (hF2 153 (Or.inr (by decide))) 0
  refine r_istore C rfl (by exact Nat.le_of_ble_eq_true rfl) ?_
  refine r_aload_n C 2 rfl rfl rfl rfl ?_
  refine v0_g C rfl mfX12_thrown lk_L_103 m1 (R_thrown hM1) ?_
  rintro v M3 ⟨rfl, rfl⟩
  refine r_top _ c2 ?_
  refine r_iload C rfl rfl ?_
  refine r_icmp_eq C 285 rfl (by decide) (fun _ => ?_) (fun h => absurd rfl h)
  refine r_iload C rfl rfl ?_
  refine r_if_ne C 302 rfl (by decide) (fun _ => r_goto C 1917 rfl (by decide) (kk _ _ _ _ (some (.int _)) (some (.int _)) ⟨vi_yard hV _ hDV, hU1, hM1, ho1, hC2, hR2⟩)) (fun h => ?_)
  have hz := nI_zero h hc2
  refine r_aload_n C 3 rfl rfl rfl rfl ?_
  refine r_ic (v := nI 0) C rfl (by decide) ?_
  refine r_lald C rfl ho1 0 rfl (by decide) (by decide) ?_
  refine r_iload C rfl rfl ?_
  refine r_i2l C rfl ?_
  rw [e2, ha1 hz]
  refine r_lcmpE C rfl ?_
  refine r_if_eq C 302 rfl (by decide) (fun _ => r_goto C 1917 rfl (by decide) (kk _ _ _ _ (some (.int _)) (some (.int _)) ⟨vi_yard hV _ hDV, hU1, hM1, ho1, hC2, hR2⟩)) (fun h => absurd rfl h)
theorem lc_fault (X : CX k E mL_law d mc ms) (hX : SCR k E xs) (hd : 22 < d) (hi : 6 * i + 6 ≤ xs.length) (hn : xs.length ≤ 3072) (hI : LInv Sh M b x tx) (hb : b < 2 ^ 25) (h1 : 8 ≤ cm) (h2 : 48 ≤ sm) (kk : LGo k E Q i b (cm - 8) (sm - 48)) : PT k E Q cm sm Sh 154 false M 305 (Lw i a c) [] := by
  obtain ⟨hV, hU, hM, ho, hC, hR⟩ := hI
  have u0 := hU.1
  have m0 := hM.1
  have C : CK k E mL_law kdW_fault d mc ms := ⟨X, kdW_fault_ok⟩
  refine r_aload_n C 1 rfl rfl rfl rfl ?_
  refine v0_g C rfl mfX11_fault lk_L_107 u0 (K_fault hU hC) ?_
  rintro r M1 ⟨-, rfl, hC1, hF1⟩
  have hR1 : RI M1 131 x := hR.low hV (fun c h3 h4 => hF1 c h3)
  refine r_aload_n C 2 rfl rfl rfl rfl ?_
  refine v0_g C rfl mfX12_fault lk_L_110 m0 (R_fault hM hV hR1) ?_
  rintro v M2 ⟨rfl, c2, hR2, hF2⟩
  have hC2 := hC1.below (M' := M2) (fun c hc => hF2 c (Or.inl hc))
  refine r_icmp_eq C 1917 rfl (by decide) (fun _ => ?_) (fun h => absurd rfl h)
  refine r_room (cm - 8) (sm - 48) (Nat.sub_le _ _) (Nat.sub_le _ _) ?_
  exact kk _ _ _ _ a c ⟨hV.more (b' := b + 520) (by omega), hU, hM, ho, hC2, hR2⟩
theorem lc_count (X : CX k E mL_law d mc ms) (hX : SCR k E xs) (hd : 22 < d) (hi : 6 * i + 6 ≤ xs.length) (hn : xs.length ≤ 3072) (hI : LInv Sh M b x tx) (hb : b < 2 ^ 25) (h1 : 8 ≤ cm) (h2 : 48 ≤ sm) (kk : LGo k E Q i b (cm - 8) (sm - 48)) : PT k E Q cm sm Sh 154 false M 318 (Lw i a c) [] := by
  obtain ⟨hV, hU, hM, ho, hC, hR⟩ := hI
  have u0 := hU.1
  have m0 := hM.1
  have C : CK k E mL_law kdW_count d mc ms := ⟨X, kdW_count_ok⟩
  refine r_aload_n C 1 rfl rfl rfl rfl ?_
  refine r_arg C hX 1 hi hn rfl rfl rfl rfl rfl (by decide) (by decide) ?_
  refine r_aload_n C 3 rfl rfl rfl rfl ?_
  refine r_callSH (As := [.ref 0, .int (xs.getD (6 * i + 1) 0), .ref 153]) (rest := []) C rfl mhL_count lk_L_111 (W_count hU ho hV hC _) rfl rfl hd (Nat.le_of_ble_eq_true rfl) h1 h2 ?_
  rintro r S1 N1 M1 ⟨rfl, rfl, rfl, hC1, ha1, hF1⟩
  have hR1 : RI M1 131 x := hR.low hV (fun c h3 h4 => hF1 c h3 (by omega))
  refine r_istore C rfl (by exact Nat.le_of_ble_eq_true rfl) ?_
  refine r_aload_n C 2 rfl rfl rfl rfl ?_
  refine r_arg C hX 1 hi hn rfl rfl rfl rfl rfl (by decide) (by decide) ?_
  refine v1_g C rfl mfX12_count lk_L_113 m0 (R_count hM hV hR1 _) ?_
  rintro v M2 ⟨rfl, c2, hR2, hF2⟩
  have hC2 := hC1.below (M' := M2) (fun c hc => hF2 c (Or.inl hc))
  have e2 := congrFun (hF2 153 (Or.inr (by decide))) 0
  refine r_istore C rfl (by exact Nat.le_of_ble_eq_true rfl) ?_
  refine r_aload_n C 2 rfl rfl rfl rfl ?_
  refine v0_g C rfl mfX12_thrown lk_L_103 m0 (R_thrown hM) ?_
  rintro v M3 ⟨rfl, rfl⟩
  refine r_top _ c2 ?_
  refine r_iload C rfl rfl ?_
  refine r_icmp_eq C 354 rfl (by decide) (fun _ => ?_) (fun h => absurd rfl h)
  refine r_iload C rfl rfl ?_
  refine r_if_ne C 371 rfl (by decide) (fun _ => r_goto C 1917 rfl (by decide) (kk _ _ _ _ (some (.int _)) (some (.int _)) ⟨hV.more (b' := b + 520) (by omega), hU, hM, ho, hC2, hR2⟩)) (fun h => ?_)
  have hz := nI_zero h (count_c2 _)
  refine r_aload_n C 3 rfl rfl rfl rfl ?_
  refine r_ic (v := nI 0) C rfl (by decide) ?_
  refine r_lald C rfl ho 0 rfl (by decide) (by decide) ?_
  refine r_iload C rfl rfl ?_
  refine r_i2l C rfl ?_
  rw [e2, ha1 hz]
  refine r_lcmpE C rfl ?_
  refine r_if_eq C 371 rfl (by decide) (fun _ => r_goto C 1917 rfl (by decide) (kk _ _ _ _ (some (.int _)) (some (.int _)) ⟨hV.more (b' := b + 520) (by omega), hU, hM, ho, hC2, hR2⟩)) (fun h => absurd rfl h)
theorem lc_wall (X : CX k E mL_law d mc ms) (hX : SCR k E xs) (hd : 22 < d) (hi : 6 * i + 6 ≤ xs.length) (hn : xs.length ≤ 3072) (hI : LInv Sh M b x tx) (hb : b < 2 ^ 25) (h1 : 8 ≤ cm) (h2 : 48 ≤ sm) (kk : LGo k E Q i b (cm - 8) (sm - 48)) : PT k E Q cm sm Sh 154 false M 374 (Lw i a c) [] := by
  obtain ⟨hV, hU, hM, ho, hC, hR⟩ := hI
  have u0 := hU.1
  have m0 := hM.1
  have C : CK k E mL_law kdW_wall d mc ms := ⟨X, kdW_wall_ok⟩
  refine r_aload_n C 1 rfl rfl rfl rfl ?_
  refine r_arg C hX 1 hi hn rfl rfl rfl rfl rfl (by decide) (by decide) ?_
  refine r_arg C hX 2 hi hn rfl rfl rfl rfl rfl (by decide) (by decide) ?_
  refine r_aload_n C 3 rfl rfl rfl rfl ?_
  refine r_callSH (As := [.ref 0, .int (xs.getD (6 * i + 1) 0), .int (xs.getD (6 * i + 2) 0), .ref 153]) (rest := []) C rfl mhL_wall lk_L_114 (W_wall hU ho hV hC _ _) rfl rfl hd (Nat.le_of_ble_eq_true rfl) h1 h2 ?_
  rintro r S1 N1 M1 ⟨rfl, rfl, rfl, hC1, ha1, hF1⟩
  have hR1 : RI M1 131 x := hR.low hV (fun c h3 h4 => hF1 c h3 (by omega))
  refine r_istore C rfl (by exact Nat.le_of_ble_eq_true rfl) ?_
  refine r_aload_n C 2 rfl rfl rfl rfl ?_
  refine r_arg C hX 1 hi hn rfl rfl rfl rfl rfl (by decide) (by decide) ?_
  refine r_arg C hX 2 hi hn rfl rfl rfl rfl rfl (by decide) (by decide) ?_
  refine v2_g C rfl mfX12_wall lk_L_117 m0 (R_wall hM hV hR1 _ _) ?_
  rintro v M2 ⟨rfl, c2, hR2, hF2⟩
  have hC2 := hC1.below (M' := M2) (fun c hc => hF2 c (Or.inl hc))
  have e2 := congrFun (hF2 153 (Or.inr (by decide))) 0
  refine r_istore C rfl (by exact Nat.le_of_ble_eq_true rfl) ?_
  refine r_aload_n C 2 rfl rfl rfl rfl ?_
  refine v0_g C rfl mfX12_thrown lk_L_103 m0 (R_thrown hM) ?_
  rintro v M3 ⟨rfl, rfl⟩
  refine r_top _ c2 ?_
  refine r_iload C rfl rfl ?_
  refine r_icmp_eq C 422 rfl (by decide) (fun _ => ?_) (fun h => absurd rfl h)
  refine r_iload C rfl rfl ?_
  refine r_if_ne C 439 rfl (by decide) (fun _ => r_goto C 1917 rfl (by decide) (kk _ _ _ _ (some (.int _)) (some (.int _)) ⟨hV.more (b' := b + 520) (by omega), hU, hM, ho, hC2, hR2⟩)) (fun h => ?_)
  have hz := nI_zero h (wall_c2 _ _)
  refine r_aload_n C 3 rfl rfl rfl rfl ?_
  refine r_ic (v := nI 0) C rfl (by decide) ?_
  refine r_lald C rfl ho 0 rfl (by decide) (by decide) ?_
  refine r_iload C rfl rfl ?_
  refine r_i2l C rfl ?_
  rw [e2, ha1 hz]
  refine r_lcmpE C rfl ?_
  refine r_if_eq C 439 rfl (by decide) (fun _ => r_goto C 1917 rfl (by decide) (kk _ _ _ _ (some (.int _)) (some (.int _)) ⟨hV.more (b' := b + 520) (by omega), hU, hM, ho, hC2, hR2⟩)) (fun h => absurd rfl h)
theorem lc_cell (X : CX k E mL_law d mc ms) (hX : SCR k E xs) (hd : 22 < d) (hi : 6 * i + 6 ≤ xs.length) (hn : xs.length ≤ 3072) (hI : LInv Sh M b x tx) (hb : b < 2 ^ 25) (h1 : 8 ≤ cm) (h2 : 48 ≤ sm) (kk : LGo k E Q i b (cm - 8) (sm - 48)) : PT k E Q cm sm Sh 154 false M 442 (Lw i a c) [] := by
  obtain ⟨hV, hU, hM, ho, hC, hR⟩ := hI
  have u0 := hU.1
  have m0 := hM.1
  have C : CK k E mL_law kdW_cell d mc ms := ⟨X, kdW_cell_ok⟩
  refine r_aload_n C 1 rfl rfl rfl rfl ?_
  refine r_arg C hX 1 hi hn rfl rfl rfl rfl rfl (by decide) (by decide) ?_
  refine r_arg C hX 2 hi hn rfl rfl rfl rfl rfl (by decide) (by decide) ?_
  refine r_arg C hX 3 hi hn rfl rfl rfl rfl rfl (by decide) (by decide) ?_
  refine r_arg C hX 4 hi hn rfl rfl rfl rfl rfl (by decide) (by decide) ?_
  refine r_aload_n C 3 rfl rfl rfl rfl ?_
  refine r_callSH (As := [.ref 0, .int (xs.getD (6 * i + 1) 0), .int (xs.getD (6 * i + 2) 0), .int (xs.getD (6 * i + 3) 0), .int (xs.getD (6 * i + 4) 0), .ref 153]) (rest := []) C rfl mhL_cell lk_L_118 (W_cell hU ho hV hC _ _ _ _) rfl rfl hd (Nat.le_of_ble_eq_true rfl) h1 h2 ?_
  rintro r S1 N1 M1 ⟨rfl, rfl, rfl, hC1, ha1, hF1⟩
  have hR1 : RI M1 131 x := hR.low hV (fun c h3 h4 => hF1 c h3 (by omega))
  refine r_istore C rfl (by exact Nat.le_of_ble_eq_true rfl) ?_
  refine r_aload_n C 2 rfl rfl rfl rfl ?_
  refine r_arg C hX 1 hi hn rfl rfl rfl rfl rfl (by decide) (by decide) ?_
  refine r_arg C hX 2 hi hn rfl rfl rfl rfl rfl (by decide) (by decide) ?_
  refine r_arg C hX 3 hi hn rfl rfl rfl rfl rfl (by decide) (by decide) ?_
  refine r_arg C hX 4 hi hn rfl rfl rfl rfl rfl (by decide) (by decide) ?_
  refine v4_g C rfl mfX12_cell lk_L_121 m0 (R_cell hM hV hR1 _ _ _ _) ?_
  rintro v M2 ⟨rfl, c2, hR2, hF2⟩
  have hC2 := hC1.below (M' := M2) (fun c hc => hF2 c (Or.inl hc))
  have e2 := congrFun (hF2 153 (Or.inr (by decide))) 0
  refine r_istore C rfl (by exact Nat.le_of_ble_eq_true rfl) ?_
  refine r_aload_n C 2 rfl rfl rfl rfl ?_
  refine v0_g C rfl mfX12_thrown lk_L_103 m0 (R_thrown hM) ?_
  rintro v M3 ⟨rfl, rfl⟩
  refine r_top _ c2 ?_
  refine r_iload C rfl rfl ?_
  refine r_icmp_eq C 514 rfl (by decide) (fun _ => ?_) (fun h => absurd rfl h)
  refine r_iload C rfl rfl ?_
  refine r_if_ne C 531 rfl (by decide) (fun _ => r_goto C 1917 rfl (by decide) (kk _ _ _ _ (some (.int _)) (some (.int _)) ⟨hV.more (b' := b + 520) (by omega), hU, hM, ho, hC2, hR2⟩)) (fun h => ?_)
  have hz := nI_zero h (cell_c2 _ _ _ _)
  refine r_aload_n C 3 rfl rfl rfl rfl ?_
  refine r_ic (v := nI 0) C rfl (by decide) ?_
  refine r_lald C rfl ho 0 rfl (by decide) (by decide) ?_
  refine r_iload C rfl rfl ?_
  refine r_i2l C rfl ?_
  rw [e2, ha1 hz]
  refine r_lcmpE C rfl ?_
  refine r_if_eq C 531 rfl (by decide) (fun _ => r_goto C 1917 rfl (by decide) (kk _ _ _ _ (some (.int _)) (some (.int _)) ⟨hV.more (b' := b + 520) (by omega), hU, hM, ho, hC2, hR2⟩)) (fun h => absurd rfl h)
theorem lc_layer (X : CX k E mL_law d mc ms) (hX : SCR k E xs) (hd : 22 < d) (hi : 6 * i + 6 ≤ xs.length) (hn : xs.length ≤ 3072) (hI : LInv Sh M b x tx) (hb : b < 2 ^ 25) (h1 : 8 ≤ cm) (h2 : 48 ≤ sm) (kk : LGo k E Q i b (cm - 8) (sm - 48)) : PT k E Q cm sm Sh 154 false M 534 (Lw i a c) [] := by
  obtain ⟨hV, hU, hM, ho, hC, hR⟩ := hI
  have u0 := hU.1
  have m0 := hM.1
  have C : CK k E mL_law kdW_layer d mc ms := ⟨X, kdW_layer_ok⟩
  refine r_aload_n C 1 rfl rfl rfl rfl ?_
  refine r_arg C hX 1 hi hn rfl rfl rfl rfl rfl (by decide) (by decide) ?_
  refine r_arg C hX 2 hi hn rfl rfl rfl rfl rfl (by decide) (by decide) ?_
  refine r_arg C hX 3 hi hn rfl rfl rfl rfl rfl (by decide) (by decide) ?_
  refine r_aload_n C 3 rfl rfl rfl rfl ?_
  refine r_callSH (As := [.ref 0, .int (xs.getD (6 * i + 1) 0), .int (xs.getD (6 * i + 2) 0), .int (xs.getD (6 * i + 3) 0), .ref 153]) (rest := []) C rfl mhL_layer lk_L_122 (W_layer hU ho hV hC _ _ _) rfl rfl hd (Nat.le_of_ble_eq_true rfl) h1 h2 ?_
  rintro r S1 N1 M1 ⟨rfl, rfl, rfl, hC1, ha1, hF1⟩
  have hR1 : RI M1 131 x := hR.low hV (fun c h3 h4 => hF1 c h3 (by omega))
  refine r_istore C rfl (by exact Nat.le_of_ble_eq_true rfl) ?_
  refine r_aload_n C 2 rfl rfl rfl rfl ?_
  refine r_arg C hX 1 hi hn rfl rfl rfl rfl rfl (by decide) (by decide) ?_
  refine r_arg C hX 2 hi hn rfl rfl rfl rfl rfl (by decide) (by decide) ?_
  refine r_arg C hX 3 hi hn rfl rfl rfl rfl rfl (by decide) (by decide) ?_
  refine v3_g C rfl mfX12_layer lk_L_125 m0 (R_layer hM hV hR1 _ _ _) ?_
  rintro v M2 ⟨rfl, c2, hR2, hF2⟩
  have hC2 := hC1.below (M' := M2) (fun c hc => hF2 c (Or.inl hc))
  have e2 := congrFun (hF2 153 (Or.inr (by decide))) 0
  refine r_istore C rfl (by exact Nat.le_of_ble_eq_true rfl) ?_
  refine r_aload_n C 2 rfl rfl rfl rfl ?_
  refine v0_g C rfl mfX12_thrown lk_L_103 m0 (R_thrown hM) ?_
  rintro v M3 ⟨rfl, rfl⟩
  refine r_top _ c2 ?_
  refine r_iload C rfl rfl ?_
  refine r_icmp_eq C 594 rfl (by decide) (fun _ => ?_) (fun h => absurd rfl h)
  refine r_iload C rfl rfl ?_
  refine r_if_ne C 611 rfl (by decide) (fun _ => r_goto C 1917 rfl (by decide) (kk _ _ _ _ (some (.int _)) (some (.int _)) ⟨hV.more (b' := b + 520) (by omega), hU, hM, ho, hC2, hR2⟩)) (fun h => ?_)
  have hz := nI_zero h (layer_c2 _ _ _)
  refine r_aload_n C 3 rfl rfl rfl rfl ?_
  refine r_ic (v := nI 0) C rfl (by decide) ?_
  refine r_lald C rfl ho 0 rfl (by decide) (by decide) ?_
  refine r_iload C rfl rfl ?_
  refine r_i2l C rfl ?_
  rw [e2, ha1 hz]
  refine r_lcmpE C rfl ?_
  refine r_if_eq C 611 rfl (by decide) (fun _ => r_goto C 1917 rfl (by decide) (kk _ _ _ _ (some (.int _)) (some (.int _)) ⟨hV.more (b' := b + 520) (by omega), hU, hM, ho, hC2, hR2⟩)) (fun h => absurd rfl h)
theorem lc_lift (X : CX k E mL_law d mc ms) (hX : SCR k E xs) (hd : 22 < d) (hi : 6 * i + 6 ≤ xs.length) (hn : xs.length ≤ 3072) (hI : LInv Sh M b x tx) (hb : b < 2 ^ 25) (h1 : 8 ≤ cm) (h2 : 48 ≤ sm) (kk : LGo k E Q i b (cm - 8) (sm - 48)) : PT k E Q cm sm Sh 154 false M 614 (Lw i a c) [] := by
  obtain ⟨hV, hU, hM, ho, hC, hR⟩ := hI
  have u0 := hU.1
  have m0 := hM.1
  have C : CK k E mL_law kdW_lift d mc ms := ⟨X, kdW_lift_ok⟩
  refine r_aload_n C 1 rfl rfl rfl rfl ?_
  refine r_arg C hX 1 hi hn rfl rfl rfl rfl rfl (by decide) (by decide) ?_
  refine r_arg C hX 2 hi hn rfl rfl rfl rfl rfl (by decide) (by decide) ?_
  refine r_aload_n C 3 rfl rfl rfl rfl ?_
  refine r_callSH (As := [.ref 0, .int (xs.getD (6 * i + 1) 0), .int (xs.getD (6 * i + 2) 0), .ref 153]) (rest := []) C rfl mhL_lift lk_L_126 (W_lift hU ho hV hC _ _) rfl rfl hd (Nat.le_of_ble_eq_true rfl) h1 h2 ?_
  rintro r S1 N1 M1 ⟨rfl, rfl, rfl, hC1, ha1, hF1⟩
  have hR1 : RI M1 131 x := hR.low hV (fun c h3 h4 => hF1 c h3 (by omega))
  refine r_istore C rfl (by exact Nat.le_of_ble_eq_true rfl) ?_
  refine r_aload_n C 2 rfl rfl rfl rfl ?_
  refine r_arg C hX 1 hi hn rfl rfl rfl rfl rfl (by decide) (by decide) ?_
  refine r_arg C hX 2 hi hn rfl rfl rfl rfl rfl (by decide) (by decide) ?_
  refine v2_g C rfl mfX12_lift lk_L_128 m0 (R_lift hM hV hR1 _ _) ?_
  rintro v M2 ⟨rfl, c2, hR2, hF2⟩
  have hC2 := hC1.below (M' := M2) (fun c hc => hF2 c (Or.inl hc))
  have e2 := congrFun (hF2 153 (Or.inr (by decide))) 0
  refine r_istore C rfl (by exact Nat.le_of_ble_eq_true rfl) ?_
  refine r_aload_n C 2 rfl rfl rfl rfl ?_
  refine v0_g C rfl mfX12_thrown lk_L_103 m0 (R_thrown hM) ?_
  rintro v M3 ⟨rfl, rfl⟩
  refine r_top _ c2 ?_
  refine r_iload C rfl rfl ?_
  refine r_icmp_eq C 662 rfl (by decide) (fun _ => ?_) (fun h => absurd rfl h)
  refine r_iload C rfl rfl ?_
  refine r_if_ne C 679 rfl (by decide) (fun _ => r_goto C 1917 rfl (by decide) (kk _ _ _ _ (some (.int _)) (some (.int _)) ⟨vi_lift hV _ _, hU, hM, ho, hC2, hR2⟩)) (fun h => ?_)
  have hz := nI_zero h (lift_c2 _ _)
  refine r_aload_n C 3 rfl rfl rfl rfl ?_
  refine r_ic (v := nI 0) C rfl (by decide) ?_
  refine r_lald C rfl ho 0 rfl (by decide) (by decide) ?_
  refine r_iload C rfl rfl ?_
  refine r_i2l C rfl ?_
  rw [e2, ha1 hz]
  refine r_lcmpE C rfl ?_
  refine r_if_eq C 679 rfl (by decide) (fun _ => r_goto C 1917 rfl (by decide) (kk _ _ _ _ (some (.int _)) (some (.int _)) ⟨vi_lift hV _ _, hU, hM, ho, hC2, hR2⟩)) (fun h => absurd rfl h)
theorem lc_down (X : CX k E mL_law d mc ms) (hX : SCR k E xs) (hd : 22 < d) (hi : 6 * i + 6 ≤ xs.length) (hn : xs.length ≤ 3072) (hI : LInv Sh M b x tx) (hb : b < 2 ^ 25) (h1 : 8 ≤ cm) (h2 : 48 ≤ sm) (kk : LGo k E Q i b (cm - 8) (sm - 48)) : PT k E Q cm sm Sh 154 false M 682 (Lw i a c) [] := by
  obtain ⟨hV, hU, hM, ho, hC, hR⟩ := hI
  have u0 := hU.1
  have m0 := hM.1
  have C : CK k E mL_law kdW_down d mc ms := ⟨X, kdW_down_ok⟩
  refine r_aload_n C 1 rfl rfl rfl rfl ?_
  refine r_arg C hX 1 hi hn rfl rfl rfl rfl rfl (by decide) (by decide) ?_
  refine r_aload_n C 3 rfl rfl rfl rfl ?_
  refine r_callSH (As := [.ref 0, .int (xs.getD (6 * i + 1) 0), .ref 153]) (rest := []) C rfl mhL_down lk_L_129 (W_down hU ho hV hC _) rfl rfl hd (Nat.le_of_ble_eq_true rfl) h1 h2 ?_
  rintro r S1 N1 M1 ⟨rfl, rfl, rfl, hC1, ha1, hF1⟩
  have hR1 : RI M1 131 x := hR.low hV (fun c h3 h4 => hF1 c h3 (by omega))
  refine r_istore C rfl (by exact Nat.le_of_ble_eq_true rfl) ?_
  refine r_aload_n C 2 rfl rfl rfl rfl ?_
  refine r_arg C hX 1 hi hn rfl rfl rfl rfl rfl (by decide) (by decide) ?_
  refine v1_g C rfl mfX12_down lk_L_131 m0 (R_down hM hV hR1 _) ?_
  rintro v M2 ⟨rfl, c2, hR2, hF2⟩
  have hC2 := hC1.below (M' := M2) (fun c hc => hF2 c (Or.inl hc))
  have e2 := congrFun (hF2 153 (Or.inr (by decide))) 0
  refine r_istore C rfl (by exact Nat.le_of_ble_eq_true rfl) ?_
  refine r_aload_n C 2 rfl rfl rfl rfl ?_
  refine v0_g C rfl mfX12_thrown lk_L_103 m0 (R_thrown hM) ?_
  rintro v M3 ⟨rfl, rfl⟩
  refine r_top _ c2 ?_
  refine r_iload C rfl rfl ?_
  refine r_icmp_eq C 718 rfl (by decide) (fun _ => ?_) (fun h => absurd rfl h)
  refine r_iload C rfl rfl ?_
  refine r_if_ne C 735 rfl (by decide) (fun _ => r_goto C 1917 rfl (by decide) (kk _ _ _ _ (some (.int _)) (some (.int _)) ⟨vi_down hV _, hU, hM, ho, hC2, hR2⟩)) (fun h => ?_)
  have hz := nI_zero h (down_c2 _)
  refine r_aload_n C 3 rfl rfl rfl rfl ?_
  refine r_ic (v := nI 0) C rfl (by decide) ?_
  refine r_lald C rfl ho 0 rfl (by decide) (by decide) ?_
  refine r_iload C rfl rfl ?_
  refine r_i2l C rfl ?_
  rw [e2, ha1 hz]
  refine r_lcmpE C rfl ?_
  refine r_if_eq C 735 rfl (by decide) (fun _ => r_goto C 1917 rfl (by decide) (kk _ _ _ _ (some (.int _)) (some (.int _)) ⟨vi_down hV _, hU, hM, ho, hC2, hR2⟩)) (fun h => absurd rfl h)
theorem lc_hollow (X : CX k E mL_law d mc ms) (hX : SCR k E xs) (hd : 22 < d) (hi : 6 * i + 6 ≤ xs.length) (hn : xs.length ≤ 3072) (hI : LInv Sh M b x tx) (hb : b < 2 ^ 25) (h1 : 8 ≤ cm) (h2 : 48 ≤ sm) (kk : LGo k E Q i b (cm - 8) (sm - 48)) : PT k E Q cm sm Sh 154 false M 738 (Lw i a c) [] := by
  obtain ⟨hV, hU, hM, ho, hC, hR⟩ := hI
  have u0 := hU.1
  have m0 := hM.1
  have C : CK k E mL_law kdW_hollow d mc ms := ⟨X, kdW_hollow_ok⟩
  refine r_aload_n C 1 rfl rfl rfl rfl ?_
  refine r_arg C hX 1 hi hn rfl rfl rfl rfl rfl (by decide) (by decide) ?_
  refine r_arg C hX 2 hi hn rfl rfl rfl rfl rfl (by decide) (by decide) ?_
  refine r_arg C hX 3 hi hn rfl rfl rfl rfl rfl (by decide) (by decide) ?_
  refine r_callSH (As := [.ref 0, .int (xs.getD (6 * i + 1) 0), .int (xs.getD (6 * i + 2) 0), .int (xs.getD (6 * i + 3) 0)]) (rest := []) C rfl mhL_hollow lk_L_132 (W_hollow hU hV hC _ _ _) rfl rfl hd (Nat.le_of_ble_eq_true rfl) h1 h2 ?_
  rintro r S1 N1 M1 ⟨rfl, rfl, rfl, hC1, hF1⟩
  have hR1 : RI M1 131 x := hR.low hV (fun c h3 h4 => hF1 c h3)
  refine r_istore C rfl (by exact Nat.le_of_ble_eq_true rfl) ?_
  refine r_aload_n C 2 rfl rfl rfl rfl ?_
  refine r_arg C hX 1 hi hn rfl rfl rfl rfl rfl (by decide) (by decide) ?_
  refine r_arg C hX 2 hi hn rfl rfl rfl rfl rfl (by decide) (by decide) ?_
  refine r_arg C hX 3 hi hn rfl rfl rfl rfl rfl (by decide) (by decide) ?_
  refine v3_g C rfl mfX12_hollow lk_L_135 m0 (R_hollow hM hV hR1 _ _ _) ?_
  rintro v M2 ⟨rfl, c2, hR2, hF2⟩
  have hC2 := hC1.below (M' := M2) (fun c hc => hF2 c (Or.inl hc))
  refine r_aload_n C 2 rfl rfl rfl rfl ?_
  refine v0_g C rfl mfX12_thrown lk_L_103 m0 (R_thrown hM) ?_
  rintro v M3 ⟨rfl, rfl⟩
  refine r_top _ c2 ?_
  refine r_iload C rfl rfl ?_
  refine r_icmp_eq C 795 rfl (by decide) (fun _ => ?_) (fun h => absurd rfl h)
  refine r_goto C 1917 rfl (by decide) ?_
  exact kk _ _ _ _ (some (.int _)) c ⟨vi_hollow hV _ _ _, hU, hM, ho, hC2, hR2⟩
theorem lc_weeks (X : CX k E mL_law d mc ms) (hX : SCR k E xs) (hd : 22 < d) (hi : 6 * i + 6 ≤ xs.length) (hn : xs.length ≤ 3072) (hI : LInv Sh M b x tx) (hb : b < 2 ^ 25) (h1 : 8 ≤ cm) (h2 : 48 ≤ sm) (kk : LGo k E Q i b (cm - 8) (sm - 48)) : PT k E Q cm sm Sh 154 false M 798 (Lw i a c) [] := by
  obtain ⟨hV, hU, hM, ho, hC, hR⟩ := hI
  have u0 := hU.1
  have m0 := hM.1
  have C : CK k E mL_law kdW_weeks d mc ms := ⟨X, kdW_weeks_ok⟩
  refine r_aload_n C 1 rfl rfl rfl rfl ?_
  refine r_arg C hX 1 hi hn rfl rfl rfl rfl rfl (by decide) (by decide) ?_
  refine r_arg C hX 2 hi hn rfl rfl rfl rfl rfl (by decide) (by decide) ?_
  refine r_aload_n C 3 rfl rfl rfl rfl ?_
  refine r_callSH (As := [.ref 0, .int (xs.getD (6 * i + 1) 0), .int (xs.getD (6 * i + 2) 0), .ref 153]) (rest := []) C rfl mhL_weeks lk_L_136 (W_weeks hU ho hV (by omega) hC _ _) rfl rfl hd (Nat.le_of_ble_eq_true rfl) h1 h2 ?_
  rintro r S1 N1 M1 ⟨rfl, rfl, rfl, hC1, ha1, hF1⟩
  have hR1 : RI M1 131 x := hR.low hV (fun c h3 h4 => hF1 c h3 (by omega))
  refine r_istore C rfl (by exact Nat.le_of_ble_eq_true rfl) ?_
  refine r_aload_n C 2 rfl rfl rfl rfl ?_
  refine r_arg C hX 1 hi hn rfl rfl rfl rfl rfl (by decide) (by decide) ?_
  refine r_arg C hX 2 hi hn rfl rfl rfl rfl rfl (by decide) (by decide) ?_
  refine v2_g C rfl mfX12_weeks lk_L_138 m0 (R_weeks hM hV (by omega) hR1 _ _) ?_
  rintro v M2 ⟨rfl, c2, hR2, hF2⟩
  have hC2 := hC1.below (M' := M2) (fun c hc => hF2 c (Or.inl hc))
  have e2 := congrFun (hF2 153 (Or.inr (by decide))) 0
  refine r_istore C rfl (by exact Nat.le_of_ble_eq_true rfl) ?_
  refine r_aload_n C 2 rfl rfl rfl rfl ?_
  refine v0_g C rfl mfX12_thrown lk_L_103 m0 (R_thrown hM) ?_
  rintro v M3 ⟨rfl, rfl⟩
  refine r_top _ c2 ?_
  refine r_iload C rfl rfl ?_
  refine r_icmp_eq C 846 rfl (by decide) (fun _ => ?_) (fun h => absurd rfl h)
  refine r_iload C rfl rfl ?_
  refine r_if_ne C 863 rfl (by decide) (fun _ => r_goto C 1917 rfl (by decide) (kk _ _ _ _ (some (.int _)) (some (.int _)) ⟨vi_weeks hV (by omega) _ _, hU, hM, ho, hC2, hR2⟩)) (fun h => ?_)
  have hz := nI_zero h (weeks_c2 _ _)
  refine r_aload_n C 3 rfl rfl rfl rfl ?_
  refine r_ic (v := nI 0) C rfl (by decide) ?_
  refine r_lald C rfl ho 0 rfl (by decide) (by decide) ?_
  refine r_iload C rfl rfl ?_
  refine r_i2l C rfl ?_
  rw [e2, ha1 hz]
  refine r_lcmpE C rfl ?_
  refine r_if_eq C 863 rfl (by decide) (fun _ => r_goto C 1917 rfl (by decide) (kk _ _ _ _ (some (.int _)) (some (.int _)) ⟨vi_weeks hV (by omega) _ _, hU, hM, ho, hC2, hR2⟩)) (fun h => absurd rfl h)
theorem lc_high (X : CX k E mL_law d mc ms) (hX : SCR k E xs) (hd : 22 < d) (hi : 6 * i + 6 ≤ xs.length) (hn : xs.length ≤ 3072) (hI : LInv Sh M b x tx) (hb : b < 2 ^ 25) (h1 : 8 ≤ cm) (h2 : 48 ≤ sm) (kk : LGo k E Q i b (cm - 8) (sm - 48)) : PT k E Q cm sm Sh 154 false M 866 (Lw i a c) [] := by
  obtain ⟨hV, hU, hM, ho, hC, hR⟩ := hI
  have u0 := hU.1
  have m0 := hM.1
  have C : CK k E mL_law kdW_high d mc ms := ⟨X, kdW_high_ok⟩
  refine r_aload_n C 1 rfl rfl rfl rfl ?_
  refine r_arg C hX 1 hi hn rfl rfl rfl rfl rfl (by decide) (by decide) ?_
  refine r_aload_n C 3 rfl rfl rfl rfl ?_
  refine r_callSH (As := [.ref 0, .int (xs.getD (6 * i + 1) 0), .ref 153]) (rest := []) C rfl mhL_high lk_L_139 (W_high hU ho hV hC _) rfl rfl hd (Nat.le_of_ble_eq_true rfl) h1 h2 ?_
  rintro r S1 N1 M1 ⟨rfl, rfl, rfl, hC1, ha1, hF1⟩
  have hR1 : RI M1 131 x := hR.low hV (fun c h3 h4 => hF1 c h3 (by omega))
  refine r_istore C rfl (by exact Nat.le_of_ble_eq_true rfl) ?_
  refine r_aload_n C 2 rfl rfl rfl rfl ?_
  refine r_arg C hX 1 hi hn rfl rfl rfl rfl rfl (by decide) (by decide) ?_
  refine v1_g C rfl mfX12_high lk_L_141 m0 (R_high hM hV hR1 _) ?_
  rintro v M2 ⟨rfl, c2, hR2, hF2⟩
  have hC2 := hC1.below (M' := M2) (fun c hc => hF2 c (Or.inl hc))
  have e2 := congrFun (hF2 153 (Or.inr (by decide))) 0
  refine r_istore C rfl (by exact Nat.le_of_ble_eq_true rfl) ?_
  refine r_aload_n C 2 rfl rfl rfl rfl ?_
  refine v0_g C rfl mfX12_thrown lk_L_103 m0 (R_thrown hM) ?_
  rintro v M3 ⟨rfl, rfl⟩
  refine r_top _ c2 ?_
  refine r_iload C rfl rfl ?_
  refine r_icmp_eq C 902 rfl (by decide) (fun _ => ?_) (fun h => absurd rfl h)
  refine r_iload C rfl rfl ?_
  refine r_if_ne C 919 rfl (by decide) (fun _ => r_goto C 1917 rfl (by decide) (kk _ _ _ _ (some (.int _)) (some (.int _)) ⟨hV.more (b' := b + 520) (by omega), hU, hM, ho, hC2, hR2⟩)) (fun h => ?_)
  have hz := nI_zero h (high_c2 _)
  refine r_aload_n C 3 rfl rfl rfl rfl ?_
  refine r_ic (v := nI 0) C rfl (by decide) ?_
  refine r_lald C rfl ho 0 rfl (by decide) (by decide) ?_
  refine r_iload C rfl rfl ?_
  refine r_i2l C rfl ?_
  rw [e2, ha1 hz]
  refine r_lcmpE C rfl ?_
  refine r_if_eq C 919 rfl (by decide) (fun _ => r_goto C 1917 rfl (by decide) (kk _ _ _ _ (some (.int _)) (some (.int _)) ⟨hV.more (b' := b + 520) (by omega), hU, hM, ho, hC2, hR2⟩)) (fun h => absurd rfl h)
theorem lc_when (X : CX k E mL_law d mc ms) (hX : SCR k E xs) (hd : 22 < d) (hi : 6 * i + 6 ≤ xs.length) (hn : xs.length ≤ 3072) (hI : LInv Sh M b x tx) (hb : b < 2 ^ 25) (h1 : 8 ≤ cm) (h2 : 48 ≤ sm) (kk : LGo k E Q i b (cm - 8) (sm - 48)) : PT k E Q cm sm Sh 154 false M 922 (Lw i a c) [] := by
  obtain ⟨hV, hU, hM, ho, hC, hR⟩ := hI
  have u0 := hU.1
  have m0 := hM.1
  have C : CK k E mL_law kdW_when d mc ms := ⟨X, kdW_when_ok⟩
  refine r_aload_n C 1 rfl rfl rfl rfl ?_
  refine r_arg C hX 1 hi hn rfl rfl rfl rfl rfl (by decide) (by decide) ?_
  refine r_arg C hX 2 hi hn rfl rfl rfl rfl rfl (by decide) (by decide) ?_
  refine r_aload_n C 3 rfl rfl rfl rfl ?_
  refine r_callSH (As := [.ref 0, .int (xs.getD (6 * i + 1) 0), .int (xs.getD (6 * i + 2) 0), .ref 153]) (rest := []) C rfl mhL_when lk_L_142 (W_when hU ho hV (by omega) hC _ _) rfl rfl hd (Nat.le_of_ble_eq_true rfl) h1 h2 ?_
  rintro r S1 N1 M1 ⟨rfl, rfl, rfl, hC1, ha1, hF1⟩
  have hR1 : RI M1 131 x := hR.low hV (fun c h3 h4 => hF1 c h3 (by omega))
  refine r_istore C rfl (by exact Nat.le_of_ble_eq_true rfl) ?_
  refine r_aload_n C 2 rfl rfl rfl rfl ?_
  refine r_arg C hX 1 hi hn rfl rfl rfl rfl rfl (by decide) (by decide) ?_
  refine r_arg C hX 2 hi hn rfl rfl rfl rfl rfl (by decide) (by decide) ?_
  refine v2_g C rfl mfX12_when lk_L_144 m0 (R_when hM hV (by omega) hR1 _ _) ?_
  rintro v M2 ⟨rfl, c2, hR2, hF2⟩
  have hC2 := hC1.below (M' := M2) (fun c hc => hF2 c (Or.inl hc))
  have e2 := congrFun (hF2 153 (Or.inr (by decide))) 0
  refine r_istore C rfl (by exact Nat.le_of_ble_eq_true rfl) ?_
  refine r_aload_n C 2 rfl rfl rfl rfl ?_
  refine v0_g C rfl mfX12_thrown lk_L_103 m0 (R_thrown hM) ?_
  rintro v M3 ⟨rfl, rfl⟩
  refine r_top _ c2 ?_
  refine r_iload C rfl rfl ?_
  refine r_icmp_eq C 970 rfl (by decide) (fun _ => ?_) (fun h => absurd rfl h)
  refine r_iload C rfl rfl ?_
  refine r_if_ne C 987 rfl (by decide) (fun _ => r_goto C 1917 rfl (by decide) (kk _ _ _ _ (some (.int _)) (some (.int _)) ⟨hV.more (b' := b + 520) (by omega), hU, hM, ho, hC2, hR2⟩)) (fun h => ?_)
  have hz := nI_zero h (when_c2 _ _)
  refine r_aload_n C 3 rfl rfl rfl rfl ?_
  refine r_ic (v := nI 0) C rfl (by decide) ?_
  refine r_lald C rfl ho 0 rfl (by decide) (by decide) ?_
  refine r_iload C rfl rfl ?_
  refine r_i2l C rfl ?_
  rw [e2, ha1 hz]
  refine r_lcmpE C rfl ?_
  refine r_if_eq C 987 rfl (by decide) (fun _ => r_goto C 1917 rfl (by decide) (kk _ _ _ _ (some (.int _)) (some (.int _)) ⟨hV.more (b' := b + 520) (by omega), hU, hM, ho, hC2, hR2⟩)) (fun h => absurd rfl h)
theorem lc_plan (X : CX k E mL_law d mc ms) (hX : SCR k E xs) (hd : 22 < d) (hi : 6 * i + 6 ≤ xs.length) (hn : xs.length ≤ 3072) (hI : LInv Sh M b x tx) (hb : b < 2 ^ 25) (h1 : 8 ≤ cm) (h2 : 48 ≤ sm) (kk : LGo k E Q i b (cm - 8) (sm - 48)) : PT k E Q cm sm Sh 154 false M 990 (Lw i a c) [] := by
  obtain ⟨hV, hU, hM, ho, hC, hR⟩ := hI
  have u0 := hU.1
  have m0 := hM.1
  have C : CK k E mL_law kdW_plan d mc ms := ⟨X, kdW_plan_ok⟩
  refine r_aload_n C 1 rfl rfl rfl rfl ?_
  refine r_arg C hX 1 hi hn rfl rfl rfl rfl rfl (by decide) (by decide) ?_
  refine r_arg C hX 2 hi hn rfl rfl rfl rfl rfl (by decide) (by decide) ?_
  refine r_aload_n C 3 rfl rfl rfl rfl ?_
  refine r_callSH (As := [.ref 0, .int (xs.getD (6 * i + 1) 0), .int (xs.getD (6 * i + 2) 0), .ref 153]) (rest := []) C rfl mhL_plan lk_L_145 (W_plan hU ho hV (by omega) hC _ _) rfl rfl hd (Nat.le_of_ble_eq_true rfl) h1 h2 ?_
  rintro r S1 N1 M1 ⟨rfl, rfl, rfl, hC1, ha1, hF1⟩
  have hR1 : RI M1 131 x := hR.low hV (fun c h3 h4 => hF1 c h3 (by omega))
  refine r_istore C rfl (by exact Nat.le_of_ble_eq_true rfl) ?_
  refine r_aload_n C 2 rfl rfl rfl rfl ?_
  refine r_arg C hX 1 hi hn rfl rfl rfl rfl rfl (by decide) (by decide) ?_
  refine r_arg C hX 2 hi hn rfl rfl rfl rfl rfl (by decide) (by decide) ?_
  refine v2_g C rfl mfX12_plan lk_L_147 m0 (R_plan hM hV (by omega) hR1 _ _) ?_
  rintro v M2 ⟨rfl, c2, hR2, hF2⟩
  have hC2 := hC1.below (M' := M2) (fun c hc => hF2 c (Or.inl hc))
  have e2 := congrFun (hF2 153 (Or.inr (by decide))) 0
  refine r_istore C rfl (by exact Nat.le_of_ble_eq_true rfl) ?_
  refine r_aload_n C 2 rfl rfl rfl rfl ?_
  refine v0_g C rfl mfX12_thrown lk_L_103 m0 (R_thrown hM) ?_
  rintro v M3 ⟨rfl, rfl⟩
  refine r_top _ c2 ?_
  refine r_iload C rfl rfl ?_
  refine r_icmp_eq C 1038 rfl (by decide) (fun _ => ?_) (fun h => absurd rfl h)
  refine r_iload C rfl rfl ?_
  refine r_if_ne C 1055 rfl (by decide) (fun _ => r_goto C 1917 rfl (by decide) (kk _ _ _ _ (some (.int _)) (some (.int _)) ⟨vi_pl hV _, hU, hM, ho, hC2, hR2⟩)) (fun h => ?_)
  have hz := nI_zero h (plan_c2 _ _)
  refine r_aload_n C 3 rfl rfl rfl rfl ?_
  refine r_ic (v := nI 0) C rfl (by decide) ?_
  refine r_lald C rfl ho 0 rfl (by decide) (by decide) ?_
  refine r_iload C rfl rfl ?_
  refine r_i2l C rfl ?_
  rw [e2, ha1 hz]
  refine r_lcmpE C rfl ?_
  refine r_if_eq C 1055 rfl (by decide) (fun _ => r_goto C 1917 rfl (by decide) (kk _ _ _ _ (some (.int _)) (some (.int _)) ⟨vi_pl hV _, hU, hM, ho, hC2, hR2⟩)) (fun h => absurd rfl h)
theorem lc_planned (X : CX k E mL_law d mc ms) (hX : SCR k E xs) (hd : 22 < d) (hi : 6 * i + 6 ≤ xs.length) (hn : xs.length ≤ 3072) (hI : LInv Sh M b x tx) (hb : b < 2 ^ 25) (h1 : 8 ≤ cm) (h2 : 48 ≤ sm) (kk : LGo k E Q i b (cm - 8) (sm - 48)) : PT k E Q cm sm Sh 154 false M 1058 (Lw i a c) [] := by
  obtain ⟨hV, hU, hM, ho, hC, hR⟩ := hI
  have u0 := hU.1
  have m0 := hM.1
  have C : CK k E mL_law kdW_planned d mc ms := ⟨X, kdW_planned_ok⟩
  refine r_aload_n C 1 rfl rfl rfl rfl ?_
  refine r_arg C hX 1 hi hn rfl rfl rfl rfl rfl (by decide) (by decide) ?_
  refine r_aload_n C 3 rfl rfl rfl rfl ?_
  refine r_callSH (As := [.ref 0, .int (xs.getD (6 * i + 1) 0), .ref 153]) (rest := []) C rfl mhL_planned lk_L_148 (W_planned hU ho hC _) rfl rfl hd (Nat.le_of_ble_eq_true rfl) h1 h2 ?_
  rintro r S1 N1 M1 ⟨rfl, rfl, rfl, hC1, ha1, hF1⟩
  have hR1 : RI M1 131 x := hR.low hV (fun c h3 h4 => hF1 c h3 (by omega))
  refine r_istore C rfl (by exact Nat.le_of_ble_eq_true rfl) ?_
  refine r_aload_n C 2 rfl rfl rfl rfl ?_
  refine r_arg C hX 1 hi hn rfl rfl rfl rfl rfl (by decide) (by decide) ?_
  refine v1_g C rfl mfX12_planned lk_L_150 m0 (R_planned hM hV hR1 _) ?_
  rintro v M2 ⟨rfl, c2, hR2, hF2⟩
  have hC2 := hC1.below (M' := M2) (fun c hc => hF2 c (Or.inl hc))
  have e2 := congrFun (hF2 153 (Or.inr (by decide))) 0
  refine r_istore C rfl (by exact Nat.le_of_ble_eq_true rfl) ?_
  refine r_aload_n C 2 rfl rfl rfl rfl ?_
  refine v0_g C rfl mfX12_thrown lk_L_103 m0 (R_thrown hM) ?_
  rintro v M3 ⟨rfl, rfl⟩
  refine r_top _ c2 ?_
  refine r_iload C rfl rfl ?_
  refine r_icmp_eq C 1094 rfl (by decide) (fun _ => ?_) (fun h => absurd rfl h)
  refine r_iload C rfl rfl ?_
  refine r_if_ne C 1111 rfl (by decide) (fun _ => r_goto C 1917 rfl (by decide) (kk _ _ _ _ (some (.int _)) (some (.int _)) ⟨hV.more (b' := b + 520) (by omega), hU, hM, ho, hC2, hR2⟩)) (fun h => ?_)
  have hz := nI_zero h (planned_c2 _)
  refine r_aload_n C 3 rfl rfl rfl rfl ?_
  refine r_ic (v := nI 0) C rfl (by decide) ?_
  refine r_lald C rfl ho 0 rfl (by decide) (by decide) ?_
  refine r_iload C rfl rfl ?_
  refine r_i2l C rfl ?_
  rw [e2, ha1 hz]
  refine r_lcmpE C rfl ?_
  refine r_if_eq C 1111 rfl (by decide) (fun _ => r_goto C 1917 rfl (by decide) (kk _ _ _ _ (some (.int _)) (some (.int _)) ⟨hV.more (b' := b + 520) (by omega), hU, hM, ho, hC2, hR2⟩)) (fun h => absurd rfl h)
theorem lc_turned (X : CX k E mL_law d mc ms) (hX : SCR k E xs) (hd : 22 < d) (hi : 6 * i + 6 ≤ xs.length) (hn : xs.length ≤ 3072) (hI : LInv Sh M b x tx) (hb : b < 2 ^ 25) (h1 : 8 ≤ cm) (h2 : 48 ≤ sm) (kk : LGo k E Q i b (cm - 8) (sm - 48)) : PT k E Q cm sm Sh 154 false M 1114 (Lw i a c) [] := by
  obtain ⟨hV, hU, hM, ho, hC, hR⟩ := hI
  have u0 := hU.1
  have m0 := hM.1
  have C : CK k E mL_law kdW_turned d mc ms := ⟨X, kdW_turned_ok⟩
  refine r_aload_n C 1 rfl rfl rfl rfl ?_
  refine r_arg C hX 1 hi hn rfl rfl rfl rfl rfl (by decide) (by decide) ?_
  refine r_arg C hX 2 hi hn rfl rfl rfl rfl rfl (by decide) (by decide) ?_
  refine r_arg C hX 3 hi hn rfl rfl rfl rfl rfl (by decide) (by decide) ?_
  refine r_arg C hX 4 hi hn rfl rfl rfl rfl rfl (by decide) (by decide) ?_
  refine r_aload_n C 3 rfl rfl rfl rfl ?_
  refine r_callSH (As := [.ref 0, .int (xs.getD (6 * i + 1) 0), .int (xs.getD (6 * i + 2) 0), .int (xs.getD (6 * i + 3) 0), .int (xs.getD (6 * i + 4) 0), .ref 153]) (rest := []) C rfl mhL_turned lk_L_151 (W_turned hU ho hV (by omega) hC _ _ _ _) rfl rfl hd (Nat.le_of_ble_eq_true rfl) h1 h2 ?_
  rintro r S1 N1 M1 ⟨rfl, rfl, rfl, hC1, ha1, hF1⟩
  have hR1 : RI M1 131 x := hR.low hV (fun c h3 h4 => hF1 c h3 (by omega))
  refine r_istore C rfl (by exact Nat.le_of_ble_eq_true rfl) ?_
  refine r_aload_n C 2 rfl rfl rfl rfl ?_
  refine r_arg C hX 1 hi hn rfl rfl rfl rfl rfl (by decide) (by decide) ?_
  refine r_arg C hX 2 hi hn rfl rfl rfl rfl rfl (by decide) (by decide) ?_
  refine r_arg C hX 3 hi hn rfl rfl rfl rfl rfl (by decide) (by decide) ?_
  refine r_arg C hX 4 hi hn rfl rfl rfl rfl rfl (by decide) (by decide) ?_
  refine v4_g C rfl mfX12_turned lk_L_153 m0 (R_turned hM hV (by omega) hR1 _ _ _ _) ?_
  rintro v M2 ⟨rfl, c2, hR2, hF2⟩
  have hC2 := hC1.below (M' := M2) (fun c hc => hF2 c (Or.inl hc))
  have e2 := congrFun (hF2 153 (Or.inr (by decide))) 0
  refine r_istore C rfl (by exact Nat.le_of_ble_eq_true rfl) ?_
  refine r_aload_n C 2 rfl rfl rfl rfl ?_
  refine v0_g C rfl mfX12_thrown lk_L_103 m0 (R_thrown hM) ?_
  rintro v M3 ⟨rfl, rfl⟩
  refine r_top _ c2 ?_
  refine r_iload C rfl rfl ?_
  refine r_icmp_eq C 1186 rfl (by decide) (fun _ => ?_) (fun h => absurd rfl h)
  refine r_iload C rfl rfl ?_
  refine r_if_ne C 1203 rfl (by decide) (fun _ => r_goto C 1917 rfl (by decide) (kk _ _ _ _ (some (.int _)) (some (.int _)) ⟨hV.more (b' := b + 520) (by omega), hU, hM, ho, hC2, hR2⟩)) (fun h => ?_)
  have hz := nI_zero h (turned_c2 _ _ _ _)
  refine r_aload_n C 3 rfl rfl rfl rfl ?_
  refine r_ic (v := nI 0) C rfl (by decide) ?_
  refine r_lald C rfl ho 0 rfl (by decide) (by decide) ?_
  refine r_iload C rfl rfl ?_
  refine r_i2l C rfl ?_
  rw [e2, ha1 hz]
  refine r_lcmpE C rfl ?_
  refine r_if_eq C 1203 rfl (by decide) (fun _ => r_goto C 1917 rfl (by decide) (kk _ _ _ _ (some (.int _)) (some (.int _)) ⟨hV.more (b' := b + 520) (by omega), hU, hM, ho, hC2, hR2⟩)) (fun h => absurd rfl h)
theorem lc_line (X : CX k E mL_law d mc ms) (hX : SCR k E xs) (hd : 22 < d) (hi : 6 * i + 6 ≤ xs.length) (hn : xs.length ≤ 3072) (hI : LInv Sh M b x tx) (hb : b < 2 ^ 25) (h1 : 8 ≤ cm) (h2 : 48 ≤ sm) (kk : LGo k E Q i b (cm - 8) (sm - 48)) : PT k E Q cm sm Sh 154 false M 1206 (Lw i a c) [] := by
  obtain ⟨hV, hU, hM, ho, hC, hR⟩ := hI
  have u0 := hU.1
  have m0 := hM.1
  have C : CK k E mL_law kdW_line d mc ms := ⟨X, kdW_line_ok⟩
  refine r_aload_n C 1 rfl rfl rfl rfl ?_
  refine r_arg C hX 1 hi hn rfl rfl rfl rfl rfl (by decide) (by decide) ?_
  refine r_arg C hX 2 hi hn rfl rfl rfl rfl rfl (by decide) (by decide) ?_
  refine r_arg C hX 3 hi hn rfl rfl rfl rfl rfl (by decide) (by decide) ?_
  refine r_aload_n C 3 rfl rfl rfl rfl ?_
  refine r_callSH (As := [.ref 0, .int (xs.getD (6 * i + 1) 0), .int (xs.getD (6 * i + 2) 0), .int (xs.getD (6 * i + 3) 0), .ref 153]) (rest := []) C rfl mhL_line lk_L_154 (W_line hU ho hV (by omega) hC _ _ _) rfl rfl hd (Nat.le_of_ble_eq_true rfl) h1 h2 ?_
  rintro r S1 N1 M1 ⟨rfl, rfl, rfl, hC1, ha1, hF1⟩
  have hR1 : RI M1 131 x := hR.low hV (fun c h3 h4 => hF1 c h3 (by omega))
  refine r_istore C rfl (by exact Nat.le_of_ble_eq_true rfl) ?_
  refine r_aload_n C 2 rfl rfl rfl rfl ?_
  refine r_arg C hX 1 hi hn rfl rfl rfl rfl rfl (by decide) (by decide) ?_
  refine r_arg C hX 2 hi hn rfl rfl rfl rfl rfl (by decide) (by decide) ?_
  refine r_arg C hX 3 hi hn rfl rfl rfl rfl rfl (by decide) (by decide) ?_
  refine v3_g C rfl mfX12_line lk_L_156 m0 (R_line hM hV (by omega) hR1 _ _ _) ?_
  rintro v M2 ⟨rfl, c2, hR2, hF2⟩
  have hC2 := hC1.below (M' := M2) (fun c hc => hF2 c (Or.inl hc))
  have e2 := congrFun (hF2 153 (Or.inr (by decide))) 0
  refine r_istore C rfl (by exact Nat.le_of_ble_eq_true rfl) ?_
  refine r_aload_n C 2 rfl rfl rfl rfl ?_
  refine v0_g C rfl mfX12_thrown lk_L_103 m0 (R_thrown hM) ?_
  rintro v M3 ⟨rfl, rfl⟩
  refine r_top _ c2 ?_
  refine r_iload C rfl rfl ?_
  refine r_icmp_eq C 1266 rfl (by decide) (fun _ => ?_) (fun h => absurd rfl h)
  refine r_iload C rfl rfl ?_
  refine r_if_ne C 1283 rfl (by decide) (fun _ => r_goto C 1917 rfl (by decide) (kk _ _ _ _ (some (.int _)) (some (.int _)) ⟨hV.more (b' := b + 520) (by omega), hU, hM, ho, hC2, hR2⟩)) (fun h => ?_)
  have hz := nI_zero h (line_c2 _ _ _)
  refine r_aload_n C 3 rfl rfl rfl rfl ?_
  refine r_ic (v := nI 0) C rfl (by decide) ?_
  refine r_lald C rfl ho 0 rfl (by decide) (by decide) ?_
  refine r_iload C rfl rfl ?_
  refine r_i2l C rfl ?_
  rw [e2, ha1 hz]
  refine r_lcmpE C rfl ?_
  refine r_if_eq C 1283 rfl (by decide) (fun _ => r_goto C 1917 rfl (by decide) (kk _ _ _ _ (some (.int _)) (some (.int _)) ⟨hV.more (b' := b + 520) (by omega), hU, hM, ho, hC2, hR2⟩)) (fun h => absurd rfl h)
theorem lc_work (X : CX k E mL_law d mc ms) (hX : SCR k E xs) (hd : 22 < d) (hi : 6 * i + 6 ≤ xs.length) (hn : xs.length ≤ 3072) (hI : LInv Sh M b x tx) (hb : b < 2 ^ 25) (h1 : 8 ≤ cm) (h2 : 48 ≤ sm) (kk : LGo k E Q i b (cm - 8) (sm - 48)) : PT k E Q cm sm Sh 154 false M 1286 (Lw i a c) [] := by
  obtain ⟨hV, hU, hM, ho, hC, hR⟩ := hI
  have u0 := hU.1
  have m0 := hM.1
  have C : CK k E mL_law kdW_work d mc ms := ⟨X, kdW_work_ok⟩
  refine r_aload_n C 1 rfl rfl rfl rfl ?_
  refine r_arg C hX 1 hi hn rfl rfl rfl rfl rfl (by decide) (by decide) ?_
  refine r_arg C hX 2 hi hn rfl rfl rfl rfl rfl (by decide) (by decide) ?_
  refine r_callSH (As := [.ref 0, .int (xs.getD (6 * i + 1) 0), .int (xs.getD (6 * i + 2) 0)]) (rest := []) C rfl mhL_work lk_L_157 (W_work hU hV hC _ _) rfl rfl hd (Nat.le_of_ble_eq_true rfl) h1 h2 ?_
  rintro r S1 N1 M1 ⟨rfl, rfl, rfl, hC1, hF1⟩
  have hR1 : RI M1 131 x := hR.low hV (fun c h3 h4 => hF1 c h3)
  refine r_istore C rfl (by exact Nat.le_of_ble_eq_true rfl) ?_
  refine r_aload_n C 2 rfl rfl rfl rfl ?_
  refine r_arg C hX 1 hi hn rfl rfl rfl rfl rfl (by decide) (by decide) ?_
  refine r_arg C hX 2 hi hn rfl rfl rfl rfl rfl (by decide) (by decide) ?_
  refine v2_g C rfl mfX12_work lk_L_160 m0 (R_work hM hV hR1 _ _) ?_
  rintro v M2 ⟨rfl, c2, hR2, hF2⟩
  have hC2 := hC1.below (M' := M2) (fun c hc => hF2 c (Or.inl hc))
  refine r_aload_n C 2 rfl rfl rfl rfl ?_
  refine v0_g C rfl mfX12_thrown lk_L_103 m0 (R_thrown hM) ?_
  rintro v M3 ⟨rfl, rfl⟩
  refine r_top _ c2 ?_
  refine r_iload C rfl rfl ?_
  refine r_icmp_eq C 1331 rfl (by decide) (fun _ => ?_) (fun h => absurd rfl h)
  refine r_goto C 1917 rfl (by decide) ?_
  exact kk _ _ _ _ (some (.int _)) c ⟨vi_work hV _ _, hU, hM, ho, hC2, hR2⟩
theorem lc_order (X : CX k E mL_law d mc ms) (hX : SCR k E xs) (hd : 22 < d) (hi : 6 * i + 6 ≤ xs.length) (hn : xs.length ≤ 3072) (hI : LInv Sh M b x tx) (hb : b < 2 ^ 25) (h1 : 8 ≤ cm) (h2 : 48 ≤ sm) (kk : LGo k E Q i b (cm - 8) (sm - 48)) : PT k E Q cm sm Sh 154 false M 1334 (Lw i a c) [] := by
  obtain ⟨hV, hU, hM, ho, hC, hR⟩ := hI
  have u0 := hU.1
  have m0 := hM.1
  have C : CK k E mL_law kdW_order d mc ms := ⟨X, kdW_order_ok⟩
  refine r_aload_n C 1 rfl rfl rfl rfl ?_
  refine r_arg C hX 1 hi hn rfl rfl rfl rfl rfl (by decide) (by decide) ?_
  refine r_arg C hX 2 hi hn rfl rfl rfl rfl rfl (by decide) (by decide) ?_
  refine r_aload_n C 3 rfl rfl rfl rfl ?_
  refine r_callSH (As := [.ref 0, .int (xs.getD (6 * i + 1) 0), .int (xs.getD (6 * i + 2) 0), .ref 153]) (rest := []) C rfl mhL_order lk_L_161 (W_order hU ho hV (by omega) hC _ _) rfl rfl hd (Nat.le_of_ble_eq_true rfl) h1 h2 ?_
  rintro r S1 N1 M1 ⟨rfl, rfl, rfl, hC1, ha1, hF1⟩
  have hR1 : RI M1 131 x := hR.low hV (fun c h3 h4 => hF1 c h3 (by omega))
  refine r_istore C rfl (by exact Nat.le_of_ble_eq_true rfl) ?_
  refine r_aload_n C 2 rfl rfl rfl rfl ?_
  refine r_arg C hX 1 hi hn rfl rfl rfl rfl rfl (by decide) (by decide) ?_
  refine r_arg C hX 2 hi hn rfl rfl rfl rfl rfl (by decide) (by decide) ?_
  refine v2_g C rfl mfX12_order lk_L_163 m0 (R_order hM hV (by omega) hR1 _ _) ?_
  rintro v M2 ⟨rfl, c2, hR2, hF2⟩
  have hC2 := hC1.below (M' := M2) (fun c hc => hF2 c (Or.inl hc))
  have e2 := congrFun (hF2 153 (Or.inr (by decide))) 0
  refine r_istore C rfl (by exact Nat.le_of_ble_eq_true rfl) ?_
  refine r_aload_n C 2 rfl rfl rfl rfl ?_
  refine v0_g C rfl mfX12_thrown lk_L_103 m0 (R_thrown hM) ?_
  rintro v M3 ⟨rfl, rfl⟩
  refine r_top _ c2 ?_
  refine r_iload C rfl rfl ?_
  refine r_icmp_eq C 1382 rfl (by decide) (fun _ => ?_) (fun h => absurd rfl h)
  refine r_iload C rfl rfl ?_
  refine r_if_ne C 1399 rfl (by decide) (fun _ => r_goto C 1917 rfl (by decide) (kk _ _ _ _ (some (.int _)) (some (.int _)) ⟨vi_od hV _, hU, hM, ho, hC2, hR2⟩)) (fun h => ?_)
  have hz := nI_zero h (order_c2 _ _)
  refine r_aload_n C 3 rfl rfl rfl rfl ?_
  refine r_ic (v := nI 0) C rfl (by decide) ?_
  refine r_lald C rfl ho 0 rfl (by decide) (by decide) ?_
  refine r_iload C rfl rfl ?_
  refine r_i2l C rfl ?_
  rw [e2, ha1 hz]
  refine r_lcmpE C rfl ?_
  refine r_if_eq C 1399 rfl (by decide) (fun _ => r_goto C 1917 rfl (by decide) (kk _ _ _ _ (some (.int _)) (some (.int _)) ⟨vi_od hV _, hU, hM, ho, hC2, hR2⟩)) (fun h => absurd rfl h)
theorem lc_ordered (X : CX k E mL_law d mc ms) (hX : SCR k E xs) (hd : 22 < d) (hi : 6 * i + 6 ≤ xs.length) (hn : xs.length ≤ 3072) (hI : LInv Sh M b x tx) (hb : b < 2 ^ 25) (h1 : 8 ≤ cm) (h2 : 48 ≤ sm) (kk : LGo k E Q i b (cm - 8) (sm - 48)) : PT k E Q cm sm Sh 154 false M 1402 (Lw i a c) [] := by
  obtain ⟨hV, hU, hM, ho, hC, hR⟩ := hI
  have u0 := hU.1
  have m0 := hM.1
  have C : CK k E mL_law kdW_ordered d mc ms := ⟨X, kdW_ordered_ok⟩
  refine r_aload_n C 1 rfl rfl rfl rfl ?_
  refine r_arg C hX 1 hi hn rfl rfl rfl rfl rfl (by decide) (by decide) ?_
  refine r_aload_n C 3 rfl rfl rfl rfl ?_
  refine r_callSH (As := [.ref 0, .int (xs.getD (6 * i + 1) 0), .ref 153]) (rest := []) C rfl mhL_ordered lk_L_164 (W_ordered hU ho hC _) rfl rfl hd (Nat.le_of_ble_eq_true rfl) h1 h2 ?_
  rintro r S1 N1 M1 ⟨rfl, rfl, rfl, hC1, ha1, hF1⟩
  have hR1 : RI M1 131 x := hR.low hV (fun c h3 h4 => hF1 c h3 (by omega))
  refine r_istore C rfl (by exact Nat.le_of_ble_eq_true rfl) ?_
  refine r_aload_n C 2 rfl rfl rfl rfl ?_
  refine r_arg C hX 1 hi hn rfl rfl rfl rfl rfl (by decide) (by decide) ?_
  refine v1_g C rfl mfX12_ordered lk_L_166 m0 (R_ordered hM hV hR1 _) ?_
  rintro v M2 ⟨rfl, c2, hR2, hF2⟩
  have hC2 := hC1.below (M' := M2) (fun c hc => hF2 c (Or.inl hc))
  have e2 := congrFun (hF2 153 (Or.inr (by decide))) 0
  refine r_istore C rfl (by exact Nat.le_of_ble_eq_true rfl) ?_
  refine r_aload_n C 2 rfl rfl rfl rfl ?_
  refine v0_g C rfl mfX12_thrown lk_L_103 m0 (R_thrown hM) ?_
  rintro v M3 ⟨rfl, rfl⟩
  refine r_top _ c2 ?_
  refine r_iload C rfl rfl ?_
  refine r_icmp_eq C 1438 rfl (by decide) (fun _ => ?_) (fun h => absurd rfl h)
  refine r_iload C rfl rfl ?_
  refine r_if_ne C 1455 rfl (by decide) (fun _ => r_goto C 1917 rfl (by decide) (kk _ _ _ _ (some (.int _)) (some (.int _)) ⟨hV.more (b' := b + 520) (by omega), hU, hM, ho, hC2, hR2⟩)) (fun h => ?_)
  have hz := nI_zero h (ordered_c2 _)
  refine r_aload_n C 3 rfl rfl rfl rfl ?_
  refine r_ic (v := nI 0) C rfl (by decide) ?_
  refine r_lald C rfl ho 0 rfl (by decide) (by decide) ?_
  refine r_iload C rfl rfl ?_
  refine r_i2l C rfl ?_
  rw [e2, ha1 hz]
  refine r_lcmpE C rfl ?_
  refine r_if_eq C 1455 rfl (by decide) (fun _ => r_goto C 1917 rfl (by decide) (kk _ _ _ _ (some (.int _)) (some (.int _)) ⟨hV.more (b' := b + 520) (by omega), hU, hM, ho, hC2, hR2⟩)) (fun h => absurd rfl h)
theorem lc_brick (X : CX k E mL_law d mc ms) (hX : SCR k E xs) (hd : 22 < d) (hi : 6 * i + 6 ≤ xs.length) (hn : xs.length ≤ 3072) (hI : LInv Sh M b x tx) (hb : b < 2 ^ 25) (h1 : 8 ≤ cm) (h2 : 48 ≤ sm) (kk : LGo k E Q i b (cm - 8) (sm - 48)) : PT k E Q cm sm Sh 154 false M 1458 (Lw i a c) [] := by
  obtain ⟨hV, hU, hM, ho, hC, hR⟩ := hI
  have u0 := hU.1
  have m0 := hM.1
  have C : CK k E mL_law kdW_brick d mc ms := ⟨X, kdW_brick_ok⟩
  by_cases hz : xs.getD (6 * i + 2) 0 = 0
  · skip
    refine r_aload_n C 1 rfl rfl rfl rfl ?_
    refine r_arg C hX 1 hi hn rfl rfl rfl rfl rfl (by decide) (by decide) ?_
    refine r_arg C hX 2 hi hn rfl rfl rfl rfl rfl (by decide) (by decide) ?_
    refine r_if_eq C 1478 rfl (by decide) (fun _ => ?_) (fun h => absurd hz h)
    refine r_ic (v := bI false) C rfl (by decide) ?_
    refine v2_g C rfl mfX11_brick lk_L_167 u0 (K_brick hU hV hC _ false) ?_
    rintro r M1 ⟨-, rfl, hC1, hF1⟩
    have hR1 : RI M1 131 x := hR.low hV (fun c h3 h4 => hF1 c h3)
    refine r_aload_n C 2 rfl rfl rfl rfl ?_
    refine r_arg C hX 1 hi hn rfl rfl rfl rfl rfl (by decide) (by decide) ?_
    refine r_arg C hX 2 hi hn rfl rfl rfl rfl rfl (by decide) (by decide) ?_
    refine r_if_eq C 1502 rfl (by decide) (fun _ => ?_) (fun h => absurd hz h)
    refine r_ic (v := bI false) C rfl (by decide) ?_
    refine v2_g C rfl mfX12_brick lk_L_171 m0 (R_brick hM hV hR1 _ false) ?_
    rintro v M2 ⟨rfl, c2, hR2, hF2⟩
    have hC2 := hC1.below (M' := M2) (fun c hc => hF2 c (Or.inl hc))
    refine r_icmp_eq C 1917 rfl (by decide) (fun _ => ?_) (fun h => absurd rfl h)
    refine r_room (cm - 8) (sm - 48) (Nat.sub_le _ _) (Nat.sub_le _ _) ?_
    exact kk _ _ _ _ a c ⟨vi_brick hV _ false, hU, hM, ho, hC2, hR2⟩
  · skip
    refine r_aload_n C 1 rfl rfl rfl rfl ?_
    refine r_arg C hX 1 hi hn rfl rfl rfl rfl rfl (by decide) (by decide) ?_
    refine r_arg C hX 2 hi hn rfl rfl rfl rfl rfl (by decide) (by decide) ?_
    refine r_if_eq C 1478 rfl (by decide) (fun h => absurd h hz) (fun _ => ?_)
    refine r_ic (v := bI true) C rfl (by decide) ?_
    refine r_goto C 1479 rfl (by decide) ?_
    refine v2_g C rfl mfX11_brick lk_L_167 u0 (K_brick hU hV hC _ true) ?_
    rintro r M1 ⟨-, rfl, hC1, hF1⟩
    have hR1 : RI M1 131 x := hR.low hV (fun c h3 h4 => hF1 c h3)
    refine r_aload_n C 2 rfl rfl rfl rfl ?_
    refine r_arg C hX 1 hi hn rfl rfl rfl rfl rfl (by decide) (by decide) ?_
    refine r_arg C hX 2 hi hn rfl rfl rfl rfl rfl (by decide) (by decide) ?_
    refine r_if_eq C 1502 rfl (by decide) (fun h => absurd h hz) (fun _ => ?_)
    refine r_ic (v := bI true) C rfl (by decide) ?_
    refine r_goto C 1503 rfl (by decide) ?_
    refine v2_g C rfl mfX12_brick lk_L_171 m0 (R_brick hM hV hR1 _ true) ?_
    rintro v M2 ⟨rfl, c2, hR2, hF2⟩
    have hC2 := hC1.below (M' := M2) (fun c hc => hF2 c (Or.inl hc))
    refine r_icmp_eq C 1917 rfl (by decide) (fun _ => ?_) (fun h => absurd rfl h)
    refine r_room (cm - 8) (sm - 48) (Nat.sub_le _ _) (Nat.sub_le _ _) ?_
    exact kk _ _ _ _ a c ⟨vi_brick hV _ true, hU, hM, ho, hC2, hR2⟩
theorem lc_mix (X : CX k E mL_law d mc ms) (hX : SCR k E xs) (hd : 22 < d) (hi : 6 * i + 6 ≤ xs.length) (hn : xs.length ≤ 3072) (hI : LInv Sh M b x tx) (hb : b < 2 ^ 25) (h1 : 8 ≤ cm) (h2 : 48 ≤ sm) (kk : LGo k E Q i b (cm - 8) (sm - 48)) : PT k E Q cm sm Sh 154 false M 1511 (Lw i a c) [] := by
  obtain ⟨hV, hU, hM, ho, hC, hR⟩ := hI
  have u0 := hU.1
  have m0 := hM.1
  have C : CK k E mL_law kdW_mix d mc ms := ⟨X, kdW_mix_ok⟩
  refine r_aload_n C 1 rfl rfl rfl rfl ?_
  refine r_arg C hX 1 hi hn rfl rfl rfl rfl rfl (by decide) (by decide) ?_
  refine r_aload_n C 3 rfl rfl rfl rfl ?_
  refine r_callSH (As := [.ref 0, .int (xs.getD (6 * i + 1) 0), .ref 153]) (rest := []) C rfl mhL_mix lk_L_172 (W_mix hU ho hV hC _) rfl rfl hd (Nat.le_of_ble_eq_true rfl) h1 h2 ?_
  rintro r S1 N1 M1 ⟨rfl, rfl, rfl, hC1, ha1, hF1⟩
  have hR1 : RI M1 131 x := hR.low hV (fun c h3 h4 => hF1 c h3 (by omega))
  refine r_istore C rfl (by exact Nat.le_of_ble_eq_true rfl) ?_
  refine r_aload_n C 2 rfl rfl rfl rfl ?_
  refine r_arg C hX 1 hi hn rfl rfl rfl rfl rfl (by decide) (by decide) ?_
  refine v1_g C rfl mfX12_mix lk_L_174 m0 (R_mix hM hV hR1 _) ?_
  rintro v M2 ⟨rfl, c2, hR2, hF2⟩
  have hC2 := hC1.below (M' := M2) (fun c hc => hF2 c (Or.inl hc))
  have e2 := congrFun (hF2 153 (Or.inr (by decide))) 0
  refine r_istore C rfl (by exact Nat.le_of_ble_eq_true rfl) ?_
  refine r_aload_n C 2 rfl rfl rfl rfl ?_
  refine v0_g C rfl mfX12_thrown lk_L_103 m0 (R_thrown hM) ?_
  rintro v M3 ⟨rfl, rfl⟩
  refine r_top _ c2 ?_
  refine r_iload C rfl rfl ?_
  refine r_icmp_eq C 1547 rfl (by decide) (fun _ => ?_) (fun h => absurd rfl h)
  refine r_iload C rfl rfl ?_
  refine r_if_ne C 1564 rfl (by decide) (fun _ => r_goto C 1917 rfl (by decide) (kk _ _ _ _ (some (.int _)) (some (.int _)) ⟨hV.more (b' := b + 520) (by omega), hU, hM, ho, hC2, hR2⟩)) (fun h => ?_)
  have hz := nI_zero h (mix_c2 _)
  refine r_aload_n C 3 rfl rfl rfl rfl ?_
  refine r_ic (v := nI 0) C rfl (by decide) ?_
  refine r_lald C rfl ho 0 rfl (by decide) (by decide) ?_
  refine r_iload C rfl rfl ?_
  refine r_i2l C rfl ?_
  rw [e2, ha1 hz]
  refine r_lcmpE C rfl ?_
  refine r_if_eq C 1564 rfl (by decide) (fun _ => r_goto C 1917 rfl (by decide) (kk _ _ _ _ (some (.int _)) (some (.int _)) ⟨hV.more (b' := b + 520) (by omega), hU, hM, ho, hC2, hR2⟩)) (fun h => absurd rfl h)
theorem lc_house (X : CX k E mL_law d mc ms) (hX : SCR k E xs) (hd : 22 < d) (hi : 6 * i + 6 ≤ xs.length) (hn : xs.length ≤ 3072) (hI : LInv Sh M b x tx) (hb : b < 2 ^ 25) (h1 : 8 ≤ cm) (h2 : 48 ≤ sm) (kk : LGo k E Q i b (cm - 8) (sm - 48)) : PT k E Q cm sm Sh 154 false M 1567 (Lw i a c) [] := by
  obtain ⟨hV, hU, hM, ho, hC, hR⟩ := hI
  have u0 := hU.1
  have m0 := hM.1
  have C : CK k E mL_law kdW_house d mc ms := ⟨X, kdW_house_ok⟩
  refine r_aload_n C 1 rfl rfl rfl rfl ?_
  refine r_arg C hX 1 hi hn rfl rfl rfl rfl rfl (by decide) (by decide) ?_
  refine r_arg C hX 2 hi hn rfl rfl rfl rfl rfl (by decide) (by decide) ?_
  refine r_arg C hX 3 hi hn rfl rfl rfl rfl rfl (by decide) (by decide) ?_
  refine v3_g C rfl mfX11_house lk_L_175 u0 (K_house hU hV hC _ _ _) ?_
  rintro r M1 ⟨-, rfl, hC1, hF1⟩
  have hR1 : RI M1 131 x := hR.low hV (fun c h3 h4 => hF1 c h3)
  refine r_aload_n C 2 rfl rfl rfl rfl ?_
  refine r_arg C hX 1 hi hn rfl rfl rfl rfl rfl (by decide) (by decide) ?_
  refine r_arg C hX 2 hi hn rfl rfl rfl rfl rfl (by decide) (by decide) ?_
  refine r_arg C hX 3 hi hn rfl rfl rfl rfl rfl (by decide) (by decide) ?_
  refine v3_g C rfl mfX12_house lk_L_178 m0 (R_house hM hV hR1 _ _ _) ?_
  rintro v M2 ⟨rfl, c2, hR2, hF2⟩
  have hC2 := hC1.below (M' := M2) (fun c hc => hF2 c (Or.inl hc))
  refine r_icmp_eq C 1917 rfl (by decide) (fun _ => ?_) (fun h => absurd rfl h)
  refine r_room (cm - 8) (sm - 48) (Nat.sub_le _ _) (Nat.sub_le _ _) ?_
  exact kk _ _ _ _ a c ⟨vi_house hV _ _ _, hU, hM, ho, hC2, hR2⟩
theorem lc_first (X : CX k E mL_law d mc ms) (hX : SCR k E xs) (hd : 22 < d) (hi : 6 * i + 6 ≤ xs.length) (hn : xs.length ≤ 3072) (hI : LInv Sh M b x tx) (hb : b < 2 ^ 25) (h1 : 8 ≤ cm) (h2 : 48 ≤ sm) (kk : LGo k E Q i b (cm - 8) (sm - 48)) : PT k E Q cm sm Sh 154 false M 1616 (Lw i a c) [] := by
  obtain ⟨hV, hU, hM, ho, hC, hR⟩ := hI
  have u0 := hU.1
  have m0 := hM.1
  have C : CK k E mL_law kdW_first d mc ms := ⟨X, kdW_first_ok⟩
  refine r_aload_n C 1 rfl rfl rfl rfl ?_
  refine r_arg C hX 1 hi hn rfl rfl rfl rfl rfl (by decide) (by decide) ?_
  refine r_arg C hX 2 hi hn rfl rfl rfl rfl rfl (by decide) (by decide) ?_
  refine r_aload_n C 3 rfl rfl rfl rfl ?_
  refine r_callSH (As := [.ref 0, .int (xs.getD (6 * i + 1) 0), .int (xs.getD (6 * i + 2) 0), .ref 153]) (rest := []) C rfl mhL_first lk_L_179 (W_first hU ho hV hC _ _) rfl rfl hd (Nat.le_of_ble_eq_true rfl) h1 h2 ?_
  rintro r S1 N1 M1 ⟨rfl, rfl, rfl, hC1, ha1, hF1⟩
  have hR1 : RI M1 131 x := hR.low hV (fun c h3 h4 => hF1 c h3 (by omega))
  refine r_istore C rfl (by exact Nat.le_of_ble_eq_true rfl) ?_
  refine r_aload_n C 2 rfl rfl rfl rfl ?_
  refine r_arg C hX 1 hi hn rfl rfl rfl rfl rfl (by decide) (by decide) ?_
  refine r_arg C hX 2 hi hn rfl rfl rfl rfl rfl (by decide) (by decide) ?_
  refine v2_g C rfl mfX12_first lk_L_181 m0 (R_first hM hV hR1 _ _) ?_
  rintro v M2 ⟨rfl, c2, hR2, hF2⟩
  have hC2 := hC1.below (M' := M2) (fun c hc => hF2 c (Or.inl hc))
  have e2 := congrFun (hF2 153 (Or.inr (by decide))) 0
  refine r_istore C rfl (by exact Nat.le_of_ble_eq_true rfl) ?_
  refine r_aload_n C 2 rfl rfl rfl rfl ?_
  refine v0_g C rfl mfX12_thrown lk_L_103 m0 (R_thrown hM) ?_
  rintro v M3 ⟨rfl, rfl⟩
  refine r_top _ c2 ?_
  refine r_iload C rfl rfl ?_
  refine r_icmp_eq C 1664 rfl (by decide) (fun _ => ?_) (fun h => absurd rfl h)
  refine r_iload C rfl rfl ?_
  refine r_if_ne C 1681 rfl (by decide) (fun _ => r_goto C 1917 rfl (by decide) (kk _ _ _ _ (some (.int _)) (some (.int _)) ⟨hV.more (b' := b + 520) (by omega), hU, hM, ho, hC2, hR2⟩)) (fun h => ?_)
  have hz := nI_zero h (first_c2 _ _)
  refine r_aload_n C 3 rfl rfl rfl rfl ?_
  refine r_ic (v := nI 0) C rfl (by decide) ?_
  refine r_lald C rfl ho 0 rfl (by decide) (by decide) ?_
  refine r_iload C rfl rfl ?_
  refine r_i2l C rfl ?_
  rw [e2, ha1 hz]
  refine r_lcmpE C rfl ?_
  refine r_if_eq C 1681 rfl (by decide) (fun _ => r_goto C 1917 rfl (by decide) (kk _ _ _ _ (some (.int _)) (some (.int _)) ⟨hV.more (b' := b + 520) (by omega), hU, hM, ho, hC2, hR2⟩)) (fun h => absurd rfl h)
theorem lc_guess (X : CX k E mL_law d mc ms) (hX : SCR k E xs) (hd : 22 < d) (hi : 6 * i + 6 ≤ xs.length) (hn : xs.length ≤ 3072) (hI : LInv Sh M b x tx) (hb : b < 2 ^ 25) (h1 : 8 ≤ cm) (h2 : 48 ≤ sm) (kk : LGo k E Q i b (cm - 8) (sm - 48)) : PT k E Q cm sm Sh 154 false M 1684 (Lw i a c) [] := by
  obtain ⟨hV, hU, hM, ho, hC, hR⟩ := hI
  have u0 := hU.1
  have m0 := hM.1
  have C : CK k E mL_law kdW_guess d mc ms := ⟨X, kdW_guess_ok⟩
  refine r_aload_n C 1 rfl rfl rfl rfl ?_
  refine r_arg C hX 1 hi hn rfl rfl rfl rfl rfl (by decide) (by decide) ?_
  refine r_arg C hX 2 hi hn rfl rfl rfl rfl rfl (by decide) (by decide) ?_
  refine r_callSH (As := [.ref 0, .int (xs.getD (6 * i + 1) 0), .int (xs.getD (6 * i + 2) 0)]) (rest := []) C rfl mhL_guess lk_L_182 (W_guess hU hV hC _ _) rfl rfl hd (Nat.le_of_ble_eq_true rfl) h1 h2 ?_
  rintro r S1 N1 M1 ⟨rfl, rfl, rfl, hC1, hF1⟩
  have hR1 : RI M1 131 x := hR.low hV (fun c h3 h4 => hF1 c h3)
  refine r_istore C rfl (by exact Nat.le_of_ble_eq_true rfl) ?_
  refine r_aload_n C 2 rfl rfl rfl rfl ?_
  refine r_arg C hX 1 hi hn rfl rfl rfl rfl rfl (by decide) (by decide) ?_
  refine r_arg C hX 2 hi hn rfl rfl rfl rfl rfl (by decide) (by decide) ?_
  refine v2_g C rfl mfX12_guess lk_L_184 m0 (R_guess hM hV hR1 _ _) ?_
  rintro v M2 ⟨rfl, c2, hR2, hF2⟩
  have hC2 := hC1.below (M' := M2) (fun c hc => hF2 c (Or.inl hc))
  refine r_aload_n C 2 rfl rfl rfl rfl ?_
  refine v0_g C rfl mfX12_thrown lk_L_103 m0 (R_thrown hM) ?_
  rintro v M3 ⟨rfl, rfl⟩
  refine r_top _ c2 ?_
  refine r_iload C rfl rfl ?_
  refine r_icmp_eq C 1729 rfl (by decide) (fun _ => ?_) (fun h => absurd rfl h)
  refine r_goto C 1917 rfl (by decide) ?_
  exact kk _ _ _ _ (some (.int _)) c ⟨vi_guess hV _ _, hU, hM, ho, hC2, hR2⟩
theorem lc_stick (X : CX k E mL_law d mc ms) (hX : SCR k E xs) (hd : 22 < d) (hi : 6 * i + 6 ≤ xs.length) (hn : xs.length ≤ 3072) (hI : LInv Sh M b x tx) (hb : b < 2 ^ 25) (h1 : 8 ≤ cm) (h2 : 48 ≤ sm) (kk : LGo k E Q i b (cm - 8) (sm - 48)) : PT k E Q cm sm Sh 154 false M 1732 (Lw i a c) [] := by
  obtain ⟨hV, hU, hM, ho, hC, hR⟩ := hI
  have u0 := hU.1
  have m0 := hM.1
  have C : CK k E mL_law kdW_stick d mc ms := ⟨X, kdW_stick_ok⟩
  refine r_aload_n C 1 rfl rfl rfl rfl ?_
  refine r_arg C hX 1 hi hn rfl rfl rfl rfl rfl (by decide) (by decide) ?_
  refine r_arg C hX 2 hi hn rfl rfl rfl rfl rfl (by decide) (by decide) ?_
  refine r_arg C hX 3 hi hn rfl rfl rfl rfl rfl (by decide) (by decide) ?_
  refine r_arg C hX 4 hi hn rfl rfl rfl rfl rfl (by decide) (by decide) ?_
  refine r_aload_n C 3 rfl rfl rfl rfl ?_
  refine r_callSH (As := [.ref 0, .int (xs.getD (6 * i + 1) 0), .int (xs.getD (6 * i + 2) 0), .int (xs.getD (6 * i + 3) 0), .int (xs.getD (6 * i + 4) 0), .ref 153]) (rest := []) C rfl mhL_stick lk_L_185 (W_stick hU ho hC _ _ _ _) rfl rfl hd (Nat.le_of_ble_eq_true rfl) h1 h2 ?_
  rintro r S1 N1 M1 ⟨rfl, rfl, rfl, hC1, ha1, hF1⟩
  have hR1 : RI M1 131 x := hR.low hV (fun c h3 h4 => hF1 c h3 (by omega))
  refine r_istore C rfl (by exact Nat.le_of_ble_eq_true rfl) ?_
  refine r_aload_n C 2 rfl rfl rfl rfl ?_
  refine r_arg C hX 1 hi hn rfl rfl rfl rfl rfl (by decide) (by decide) ?_
  refine r_arg C hX 2 hi hn rfl rfl rfl rfl rfl (by decide) (by decide) ?_
  refine r_arg C hX 3 hi hn rfl rfl rfl rfl rfl (by decide) (by decide) ?_
  refine r_arg C hX 4 hi hn rfl rfl rfl rfl rfl (by decide) (by decide) ?_
  refine v4_g C rfl mfX12_stick lk_L_187 m0 (R_stick hM hV hR1 _ _ _ _) ?_
  rintro v M2 ⟨rfl, c2, hR2, hF2⟩
  have hC2 := hC1.below (M' := M2) (fun c hc => hF2 c (Or.inl hc))
  have e2 := congrFun (hF2 153 (Or.inr (by decide))) 0
  refine r_istore C rfl (by exact Nat.le_of_ble_eq_true rfl) ?_
  refine r_aload_n C 2 rfl rfl rfl rfl ?_
  refine v0_g C rfl mfX12_thrown lk_L_103 m0 (R_thrown hM) ?_
  rintro v M3 ⟨rfl, rfl⟩
  refine r_top _ c2 ?_
  refine r_iload C rfl rfl ?_
  refine r_icmp_eq C 1804 rfl (by decide) (fun _ => ?_) (fun h => absurd rfl h)
  refine r_iload C rfl rfl ?_
  refine r_if_ne C 1821 rfl (by decide) (fun _ => r_goto C 1917 rfl (by decide) (kk _ _ _ _ (some (.int _)) (some (.int _)) ⟨vi_stick hV _ _ _ _, hU, hM, ho, hC2, hR2⟩)) (fun h => ?_)
  have hz := nI_zero h (stick_c2 _ _ _ _)
  refine r_aload_n C 3 rfl rfl rfl rfl ?_
  refine r_ic (v := nI 0) C rfl (by decide) ?_
  refine r_lald C rfl ho 0 rfl (by decide) (by decide) ?_
  refine r_iload C rfl rfl ?_
  refine r_i2l C rfl ?_
  rw [e2, ha1 hz]
  refine r_lcmpE C rfl ?_
  refine r_if_eq C 1821 rfl (by decide) (fun _ => r_goto C 1917 rfl (by decide) (kk _ _ _ _ (some (.int _)) (some (.int _)) ⟨vi_stick hV _ _ _ _, hU, hM, ho, hC2, hR2⟩)) (fun h => absurd rfl h)
theorem lc_credit (X : CX k E mL_law d mc ms) (hX : SCR k E xs) (hd : 22 < d) (hi : 6 * i + 6 ≤ xs.length) (hn : xs.length ≤ 3072) (hI : LInv Sh M b x tx) (hb : b < 2 ^ 25) (h1 : 8 ≤ cm) (h2 : 48 ≤ sm) (kk : LGo k E Q i b (cm - 8) (sm - 48)) : PT k E Q cm sm Sh 154 false M 1824 (Lw i a c) [] := by
  obtain ⟨hV, hU, hM, ho, hC, hR⟩ := hI
  have u0 := hU.1
  have m0 := hM.1
  have C : CK k E mL_law kdW_credit d mc ms := ⟨X, kdW_credit_ok⟩
  refine r_aload_n C 1 rfl rfl rfl rfl ?_
  refine r_arg C hX 1 hi hn rfl rfl rfl rfl rfl (by decide) (by decide) ?_
  refine r_aload_n C 3 rfl rfl rfl rfl ?_
  refine r_callSH (As := [.ref 0, .int (xs.getD (6 * i + 1) 0), .ref 153]) (rest := []) C rfl mhL_credit lk_L_188 (W_credit hU ho hC _) rfl rfl hd (Nat.le_of_ble_eq_true rfl) h1 h2 ?_
  rintro r S1 N1 M1 ⟨rfl, rfl, rfl, hC1, ha1, hF1⟩
  have hR1 : RI M1 131 x := hR.low hV (fun c h3 h4 => hF1 c h3 (by omega))
  refine r_istore C rfl (by exact Nat.le_of_ble_eq_true rfl) ?_
  refine r_aload_n C 2 rfl rfl rfl rfl ?_
  refine r_arg C hX 1 hi hn rfl rfl rfl rfl rfl (by decide) (by decide) ?_
  refine v1_g C rfl mfX12_credit lk_L_190 m0 (R_credit hM hV hR1 _) ?_
  rintro v M2 ⟨rfl, c2, hR2, hF2⟩
  have hC2 := hC1.below (M' := M2) (fun c hc => hF2 c (Or.inl hc))
  have e2 := congrFun (hF2 153 (Or.inr (by decide))) 0
  refine r_istore C rfl (by exact Nat.le_of_ble_eq_true rfl) ?_
  refine r_aload_n C 2 rfl rfl rfl rfl ?_
  refine v0_g C rfl mfX12_thrown lk_L_103 m0 (R_thrown hM) ?_
  rintro v M3 ⟨rfl, rfl⟩
  refine r_top _ c2 ?_
  refine r_iload C rfl rfl ?_
  refine r_icmp_eq C 1860 rfl (by decide) (fun _ => ?_) (fun h => absurd rfl h)
  refine r_iload C rfl rfl ?_
  refine r_if_ne C 1877 rfl (by decide) (fun _ => r_goto C 1917 rfl (by decide) (kk _ _ _ _ (some (.int _)) (some (.int _)) ⟨hV.more (b' := b + 520) (by omega), hU, hM, ho, hC2, hR2⟩)) (fun h => ?_)
  have hz := nI_zero h (credit_c2 _)
  refine r_aload_n C 3 rfl rfl rfl rfl ?_
  refine r_ic (v := nI 0) C rfl (by decide) ?_
  refine r_lald C rfl ho 0 rfl (by decide) (by decide) ?_
  refine r_iload C rfl rfl ?_
  refine r_i2l C rfl ?_
  rw [e2, ha1 hz]
  refine r_lcmpE C rfl ?_
  refine r_if_eq C 1877 rfl (by decide) (fun _ => r_goto C 1917 rfl (by decide) (kk _ _ _ _ (some (.int _)) (some (.int _)) ⟨hV.more (b' := b + 520) (by omega), hU, hM, ho, hC2, hR2⟩)) (fun h => absurd rfl h)
theorem lc_where (X : CX k E mL_law d mc ms) (hX : SCR k E xs) (hd : 22 < d) (hi : 6 * i + 6 ≤ xs.length) (hn : xs.length ≤ 3072) (hI : LInv Sh M b x tx) (hb : b < 2 ^ 25) (h1 : 8 ≤ cm) (h2 : 48 ≤ sm) (kk : LGo k E Q i b (cm - 8) (sm - 48)) : PT k E Q cm sm Sh 154 false M 1880 (Lw i a c) [] := by
  obtain ⟨hV, hU, hM, ho, hC, hR⟩ := hI
  have u0 := hU.1
  have m0 := hM.1
  have C : CK k E mL_law kdW_where d mc ms := ⟨X, kdW_where_ok⟩
  refine r_aload_n C 1 rfl rfl rfl rfl ?_
  refine v0_g C rfl mfX11_where lk_L_191 u0 (K_where hU hC) ?_
  rintro r M1 ⟨-, rfl, hC1, hF1⟩
  have hR1 : RI M1 131 x := hR.low hV (fun c h3 h4 => hF1 c h3)
  refine r_aload_n C 2 rfl rfl rfl rfl ?_
  refine v0_g C rfl mfX12_where lk_L_194 m0 (R_where hM hV hR1) ?_
  rintro v M2 ⟨rfl, c2, hR2, hF2⟩
  have hC2 := hC1.below (M' := M2) (fun c hc => hF2 c (Or.inl hc))
  refine r_icmp_eq C 1917 rfl (by decide) (fun _ => ?_) (fun h => absurd rfl h)
  refine r_room (cm - 8) (sm - 48) (Nat.sub_le _ _) (Nat.sub_le _ _) ?_
  exact kk _ _ _ _ a c ⟨hV.more (b' := b + 520) (by omega), hU, hM, ho, hC2, hR2⟩
theorem lc_image (X : CX k E mL_law d mc ms) (hX : SCR k E xs) (hd : 22 < d) (hi : 6 * i + 6 ≤ xs.length) (hn : xs.length ≤ 3072) (hI : LInv Sh M b x tx) (hb : b < 2 ^ 25) (h1 : 8 ≤ cm) (h2 : 48 ≤ sm) (kk : LGo k E Q i b (cm - 8) (sm - 48)) : PT k E Q cm sm Sh 154 false M 1893 (Lw i a c) [] := by
  obtain ⟨hV, hU, hM, ho, hC, hR⟩ := hI
  have u0 := hU.1
  have m0 := hM.1
  have C : CK k E mL_law kdW_image d mc ms := ⟨X, kdW_image_ok⟩
  refine r_aload_n C 1 rfl rfl rfl rfl ?_
  refine v0_g C rfl mfX11_image lk_L_195 u0 (K_image hU hV hC) ?_
  rintro r M1 ⟨-, rfl, hC1, hF1⟩
  have hR1 : RI M1 131 x := hR.low hV (fun c h3 h4 => hF1 c h3)
  refine r_aload_n C 2 rfl rfl rfl rfl ?_
  refine v0_g C rfl mfX12_image lk_L_198 m0 (R_image hM hV hR1) ?_
  rintro v M2 ⟨rfl, c2, hR2, hF2⟩
  have hC2 := hC1.below (M' := M2) (fun c hc => hF2 c (Or.inl hc))
  refine r_goto C 1917 rfl (by decide) ?_
  refine r_room (cm - 8) (sm - 48) (Nat.sub_le _ _) (Nat.sub_le _ _) ?_
  exact kk _ _ _ _ a c ⟨vi_image hV, hU, hM, ho, hC2, hR2⟩
theorem lc_restore (X : CX k E mL_law d mc ms) (hX : SCR k E xs) (hd : 22 < d) (hi : 6 * i + 6 ≤ xs.length) (hn : xs.length ≤ 3072) (hI : LInv Sh M b x tx) (hb : b < 2 ^ 25) (h1 : 8 ≤ cm) (h2 : 48 ≤ sm) (kk : LGo k E Q i b (cm - 8) (sm - 48)) : PT k E Q cm sm Sh 154 false M 1904 (Lw i a c) [] := by
  obtain ⟨hV, hU, hM, ho, hC, hR⟩ := hI
  have u0 := hU.1
  have m0 := hM.1
  have C : CK k E mL_law kdW_restore d mc ms := ⟨X, kdW_restore_ok⟩
  refine r_aload_n C 1 rfl rfl rfl rfl ?_
  refine v0_g C rfl mfX11_restore lk_L_199 u0 (K_restore hU hV hC) ?_
  rintro r M1 ⟨-, rfl, hC1, hF1⟩
  have hR1 : RI M1 131 x := hR.low hV (fun c h3 h4 => hF1 c h3)
  refine r_aload_n C 2 rfl rfl rfl rfl ?_
  refine v0_g C rfl mfX12_restore lk_L_203 m0 (R_restore hM hV hR1) ?_
  rintro v M2 ⟨rfl, c2, hR2, hF2⟩
  have hC2 := hC1.below (M' := M2) (fun c hc => hF2 c (Or.inl hc))
  refine r_icmp_eq C 1917 rfl (by decide) (fun _ => ?_) (fun h => absurd rfl h)
  refine r_room (cm - 8) (sm - 48) (Nat.sub_le _ _) (Nat.sub_le _ _) ?_
  exact kk _ _ _ _ a c ⟨vi_back hV, hU, hM, ho, hC2, hR2⟩
end LCASE
