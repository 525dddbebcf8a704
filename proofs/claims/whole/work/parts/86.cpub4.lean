section CPUBD
variable {E : VE} {Sh : Nat → SE} {N : Nat} {G : Bool} {M M' M'' : MM} {tx b w yd : Nat} {x : ST} {R : Row} {Y : YD}
theorem K_brick (hU : MU Sh N tx) (hV : VI b x) (hC : CI M x) (s : Int32) (c : Bool) : Con E mX11_brick 20 0 0 [.ref 0, .int s, .int (bI c)] Sh N G M (PR Sh N (CQ M (brI x.br s c) 0 (x.brick s c))) nox := by
  obtain ⟨u0, u1, u2, u3, u4, u6, u10, u14, uw, u31, ui, u48, u51, u116, u117, u120, u121, u124, u125, u128⟩ := id hU
  have hO : BrOk x.br := hV.2.2.2.2.2.1
  have kb : At Sh N 124 _ := u124
  obtain ⟨c1, c2, c3, c4, c5, c6, c7, c8, c9, c10, c11⟩ := id hC
  refine Con.ofQ (by decide +kernel) (by simp [Value.category]) (Nat.le_of_ble_eq_true rfl) (fun k C0 Q hQ => ?_)
  have C : CK k E mX11_brick kdX11_brick 20 0 0 := ⟨C0, kdX11_brick_ok⟩
  refine r_aload_n C 0 rfl rfl rfl rfl ?_
  refine r_getv C rfl f_X11_96 (by assumption) rfl ?_
  refine r_iload_n C 1 rfl rfl rfl ?_
  refine r_iload_n C 2 rfl rfl rfl ?_
  refine v2_g C rfl mfX0_add lk_X11_357 (by assumption) (k_add u124 c9 hO s c) ?_
  rintro z M1 ⟨rfl, hF, hb⟩
  have hC1 : brNo x.br s c = false → CI M1 (x.setBr (brS x.br s c)) := fun _ => ⟨c1.keep hF (by decide) (by decide), c2.keep hF (by decide), c3.keep hF (by decide) (by decide) (fun c _ _ => by omega), c4.keep hF (by decide) (by decide), c5.keep hF (by decide) (by decide), c6.keep hF (fun c _ _ => by omega), c7.cong (hF _ (by decide)) (hF _ (by decide)), c8.cong (hF _ (by decide)) (hF _ (by decide)), hb, c10.cong2 (hF _ (by decide)) (hF _ (by decide)) (hF _ (by decide)), c11.cong (hF _ (by decide)) (hF _ (by decide))⟩
  cases hn : brNo x.br s c with
  | true =>
    have es : brS x.br s c = x.br := by unfold brS; rw [hn, if_pos tt_t]
    have hC2 : CI M1 x := by
      rw [es] at hb
      exact ⟨c1.keep hF (by decide) (by decide), c2.keep hF (by decide), c3.keep hF (by decide) (by decide) (fun c _ _ => by omega), c4.keep hF (by decide) (by decide), c5.keep hF (by decide) (by decide), c6.keep hF (fun c _ _ => by omega), c7.cong (hF _ (by decide)) (hF _ (by decide)), c8.cong (hF _ (by decide)) (hF _ (by decide)), hb, c10.cong2 (hF _ (by decide)) (hF _ (by decide)) (hF _ (by decide)), c11.cong (hF _ (by decide)) (hF _ (by decide))⟩
    refine r_if_ne C 24 rfl (by decide) (fun h => absurd rfl h) (fun _ => ?_)
    refine r_aload_n C 0 rfl rfl rfl rfl ?_
    refine r_getv C rfl f_X11_17 (by assumption) rfl ?_
    refine r_ic (v := nI 2) C rfl (by decide) ?_
    refine r_dup2 C rfl rfl rfl ?_
    refine r_iald C rfl (by assumption) (2) rfl (by omega) (by decide) ?_
    rw [hC2.2.1 2 (by decide)]
    refine r_ic (v := nI 1) C rfl (by decide) ?_
    refine r_iadd C rfl ?_
    refine r_iast C rfl (by assumption) (2) rfl (by omega) (by decide) ?_
    refine r_ic (v := (-1)) C rfl (by decide) ?_
    refine q_iret C hQ rfl rfl rfl ⟨rfl, rfl, rfl, by rw [brI, hn, if_pos tt_t], ?_, fun c hc => by rw [up_row _ _ (by omega)]; exact hF c (by omega)⟩
    rw [ST.brick, hn, if_pos tt_t]
    exact hC2.ups 2 rfl
  | false =>
    refine r_if_ne C 24 rfl (by decide) (fun _ => ?_) (fun h => absurd h (by decide))
    refine r_aload_n C 0 rfl rfl rfl rfl ?_
    refine r_getv C rfl f_X11_96 (by assumption) rfl ?_
    refine r_geti C rfl f_X11_361 (by assumption) rfl ?_
    rw [hb.1]
    refine q_iret C hQ rfl rfl rfl ⟨rfl, rfl, rfl, ?_, ?_, fun c hc => hF c (by omega)⟩
    · rw [brI, hn, if_neg ff_t, brS, hn, if_neg ff_t]
    · rw [ST.brick, hn, if_neg ff_t]
      exact hC1 hn
theorem K_mix (hU : MU Sh N tx) (hV : VI b x) (hC : CI M x) (z : Int32) : Con E mX11_mix 20 8 48 [.ref 0, .int z] Sh N G M (PR Sh N (CQ M (mixA x.br z).2 (mixA x.br z).1 x)) (CX1 (mixA x.br z).1) := by
  obtain ⟨u0, u1, u2, u3, u4, u6, u10, u14, uw, u31, ui, u48, u51, u116, u117, u120, u121, u124, u125, u128⟩ := id hU
  have hO : BrOk x.br := hV.2.2.2.2.2.1
  have kb : At Sh N 124 _ := u124
  have c9 := hC.2.2.2.2.2.2.2.2.1
  refine Con.ofQ (by decide +kernel) (by simp [Value.category]) (Nat.le_of_ble_eq_true rfl) (fun k C0 Q hQ => ?_)
  have C : CK k E mX11_mix kdX11_mix 20 8 48 := ⟨C0, kdX11_mix_ok⟩
  refine r_iload_n C 1 rfl rfl rfl ?_
  by_cases e0 : z = nI 0
  · subst e0
    refine r_tabIn C 32 rfl (by decide) (by decide) rfl (by decide) ?_
    refine r_aload_n C 0 rfl rfl rfl rfl ?_
    refine r_getv C rfl f_X11_96 (by assumption) rfl ?_
    refine r_geti C rfl f_X11_364 (by assumption) rfl ?_
    rw [c9.2.1]
    exact q_iret C hQ rfl rfl rfl ⟨rfl, rfl, rfl, rfl, hC, fun _ _ => rfl⟩
  by_cases e1 : z = nI 1
  · subst e1
    refine r_tabIn C 40 rfl (by decide) (by decide) rfl (by decide) ?_
    refine r_aload_n C 0 rfl rfl rfl rfl ?_
    refine r_getv C rfl f_X11_96 (by assumption) rfl ?_
    refine r_geti C rfl f_X11_367 (by assumption) rfl ?_
    rw [c9.2.2]
    exact q_iret C hQ rfl rfl rfl ⟨rfl, rfl, rfl, rfl, hC, fun _ _ => rfl⟩
  by_cases e2 : z = nI 2
  · subst e2
    refine r_tabIn C 48 rfl (by decide) (by decide) rfl (by decide) ?_
    refine r_aload_n C 0 rfl rfl rfl rfl ?_
    refine r_getv C rfl f_X11_96 (by assumption) rfl ?_
    refine v0_r C rfl mfX0_nextShare lk_X11_370 (by assumption) (k_next u124 c9) ?_
    exact q_iret C hQ rfl rfl rfl ⟨rfl, rfl, rfl, rfl, hC, fun _ _ => rfl⟩
  by_cases e3 : z = nI 3
  · subst e3
    refine r_tabIn C 56 rfl (by decide) (by decide) rfl (by decide) ?_
    refine r_aload_n C 0 rfl rfl rfl rfl ?_
    refine r_getv C rfl f_X11_96 (by assumption) rfl ?_
    refine v0_r C rfl mfX0_fewestTrials lk_X11_373 (by assumption) (k_few u124 c9 hO) ?_
    exact q_iret C hQ rfl rfl rfl ⟨rfl, rfl, rfl, rfl, hC, fun _ _ => rfl⟩
  have ea : mixA x.br z = (1, 0) := by rw [mixA, if_neg e0, if_neg e1, if_neg e2, if_neg e3]
  refine r_tabOut C 64 rfl ?_ (by decide) ?_
  · by_cases q : z.toInt < 0
    · exact Or.inl q
    · right
      refine Int.not_le.mp (fun q2 => ?_)
      rcases (show z.toInt = (0 : Nat) ∨ z.toInt = (1 : Nat) ∨ z.toInt = (2 : Nat) ∨ z.toInt = (3 : Nat) by omega) with y | y | y | y
      · exact e0 (z_is (by omega) y)
      · exact e1 (z_is (by omega) y)
      · exact e2 (z_is (by omega) y)
      · exact e3 (z_is (by omega) y)
  exact r_nseW C hQ (Or.inl ⟨by rw [ea], rfl⟩) (text := "no such thing of a mix") (n := 31) (by decide +kernel) rfl rfl rfl rfl rfl
theorem K_house (hU : MU Sh N tx) (hV : VI b x) (hC : CI M x) (p q z : Int32) : Con E mX11_house 20 0 0 [.ref 0, .int p, .int q, .int z] Sh N G M (PR Sh N (CQ M (hoI x.hn p q z) 0 (x.house p q z))) nox := by
  obtain ⟨u0, u1, u2, u3, u4, u6, u10, u14, uw, u31, ui, u48, u51, u116, u117, u120, u121, u124, u125, u128⟩ := id hU
  have kh := u125.1
  obtain ⟨c1, c2, c3, c4, c5, c6, c7, c8, c9, c10, c11⟩ := id hC
  refine Con.ofQ (by decide +kernel) (by simp [Value.category]) (Nat.le_of_ble_eq_true rfl) (fun k C0 Q hQ => ?_)
  have C : CK k E mX11_house kdX11_house 20 0 0 := ⟨C0, kdX11_house_ok⟩
  refine r_aload_n C 0 rfl rfl rfl rfl ?_
  refine r_getv C rfl f_X11_103 (by assumption) rfl ?_
  refine r_iload_n C 1 rfl rfl rfl ?_
  refine r_iload_n C 2 rfl rfl rfl ?_
  refine r_iload_n C 3 rfl rfl rfl ?_
  refine v3_g C rfl mfX3_add lk_X11_378 (by assumption) (h_add u125 c10 p q z) ?_
  rintro y M1 ⟨rfl, hF, hh⟩
  cases hn : hoNo x.hn p q z with
  | true =>
    rw [hn, if_pos tt_t, if_pos tt_t, if_pos tt_t] at hh
    have hC2 : CI M1 x := ⟨c1.keep hF (by decide) (by decide), c2.keep hF (by decide), c3.keep hF (by decide) (by decide) (fun c _ _ => by omega), c4.keep hF (by decide) (by decide), c5.keep hF (by decide) (by decide), c6.keep hF (fun c _ _ => by omega), c7.cong (hF _ (by decide)) (hF _ (by decide)), c8.cong (hF _ (by decide)) (hF _ (by decide)), c9.cong (hF _ (by decide)), hh, c11.cong (hF _ (by decide)) (hF _ (by decide))⟩
    refine r_if_ne C 25 rfl (by decide) (fun h => absurd rfl h) (fun _ => ?_)
    refine r_aload_n C 0 rfl rfl rfl rfl ?_
    refine r_getv C rfl f_X11_17 (by assumption) rfl ?_
    refine r_ic (v := nI 3) C rfl (by decide) ?_
    refine r_dup2 C rfl rfl rfl ?_
    refine r_iald C rfl (by assumption) (3) rfl (by omega) (by decide) ?_
    rw [hC2.2.1 3 (by decide)]
    refine r_ic (v := nI 1) C rfl (by decide) ?_
    refine r_iadd C rfl ?_
    refine r_iast C rfl (by assumption) (3) rfl (by omega) (by decide) ?_
    refine r_ic (v := (-1)) C rfl (by decide) ?_
    refine q_iret C hQ rfl rfl rfl ⟨rfl, rfl, rfl, by rw [hoI, hn, if_pos tt_t], ?_, fun c hc => by rw [up_row _ _ (by omega)]; exact hF c (by omega)⟩
    rw [ST.house, hn, if_pos tt_t]
    exact hC2.ups 3 rfl
  | false =>
    rw [hn, if_neg ff_t, if_neg ff_t, if_neg ff_t] at hh
    refine r_if_ne C 25 rfl (by decide) (fun _ => ?_) (fun h => absurd h (by decide))
    refine r_aload_n C 0 rfl rfl rfl rfl ?_
    refine r_getv C rfl f_X11_103 (by assumption) rfl ?_
    refine r_geti C rfl f_X11_381 (by assumption) rfl ?_
    rw [hh.2.1]
    refine q_iret C hQ rfl rfl rfl ⟨rfl, rfl, rfl, by rw [hoI, hn, if_neg ff_t], ?_, fun c hc => hF c (by omega)⟩
    rw [ST.house, hn, if_neg ff_t]
    exact ⟨c1.keep hF (by decide) (by decide), c2.keep hF (by decide), c3.keep hF (by decide) (by decide) (fun c _ _ => by omega), c4.keep hF (by decide) (by decide), c5.keep hF (by decide) (by decide), c6.keep hF (fun c _ _ => by omega), c7.cong (hF _ (by decide)) (hF _ (by decide)), c8.cong (hF _ (by decide)) (hF _ (by decide)), c9.cong (hF _ (by decide)), hh, c11.cong (hF _ (by decide)) (hF _ (by decide))⟩
theorem K_first (hU : MU Sh N tx) (hV : VI b x) (hC : CI M x) (coin z : Int32) : Con E mX11_first 20 8 48 [.ref 0, .int coin, .int z] Sh N G M (PR Sh N (CQ M (firstA x coin z).2 (firstA x coin z).1 x)) (CX1 (firstA x coin z).1) := by
  obtain ⟨u0, u1, u2, u3, u4, u6, u10, u14, uw, u31, ui, u48, u51, u116, u117, u120, u121, u124, u125, u128⟩ := id hU
  have kh := u125.1
  obtain ⟨c1, c2, c3, c4, c5, c6, c7, c8, c9, c10, c11⟩ := id hC
  refine Con.ofQ (by decide +kernel) (by simp [Value.category]) (Nat.le_of_ble_eq_true rfl) (fun k C0 Q hQ => ?_)
  have C : CK k E mX11_first kdX11_first 20 8 48 := ⟨C0, kdX11_first_ok⟩
  refine r_iload_n C 2 rfl rfl rfl ?_
  refine r_ic (v := nI 2) C rfl (by decide) ?_
  refine s2_x C rfl mfX11_checkWhat lk_X11_322 (K_checkWhat z (nI 2)) (by omega) (by omega) (fun X h => q_thr C hQ (Or.inl ⟨by rw [firstA, if_pos h.2], h.1⟩)) ?_
  rintro y M1 ⟨rfl, rfl, h1⟩
  have h1' : ¬ inI z 0 (nI 2) = false := by rw [h1]; decide
  refine r_iload_n C 1 rfl rfl rfl ?_
  refine r_ic (v := nI 0) C rfl (by decide) ?_
  refine r_si (v := nI 9999) C rfl (by decide) ?_
  refine s3_x C rfl mfX11_checkRange lk_X11_292 (K_checkRange coin (nI 0) (nI 9999)) (by omega) (by omega) (fun X h => q_thr C hQ (Or.inr ⟨by rw [firstA, if_neg h1', if_pos (show inI coin 0 (nI 9999) = false from h.2)], h.1⟩)) ?_
  rintro y M2 ⟨rfl, rfl, h2⟩
  have h2 : inI coin 0 (nI 9999) = true := h2
  have ea : firstA x coin z = (0, if z = 0 then (hoX x.hw x.hc x.hn coin (2 ^ x.hn - 1)).1 else if z = nI 1 then (hoX x.hw x.hc x.hn coin (2 ^ x.hn - 1)).2.1 else nI (hoX x.hw x.hc x.hn coin (2 ^ x.hn - 1)).2.2) := by rw [firstA, if_neg h1', if_neg (by rw [h2]; decide)]
  rw [ea] at hQ
  obtain ⟨m, -, hm, rfl⟩ := (inI_iff (a := 0) (by decide) (by decide)).mp h1
  refine r_aload_n C 0 rfl rfl rfl rfl ?_
  refine r_getv C rfl f_X11_103 (by assumption) rfl ?_
  refine r_iload_n C 1 rfl rfl rfl ?_
  refine v1_g C rfl mfX3_choose lk_X11_384 (by assumption) (h_choose u125 c10 coin) ?_
  rintro y M3 ⟨rfl, hF, e2, hB⟩
  have hC3 : CI M3 x := ⟨c1.keep hF (by decide) (by decide), c2.keep hF (by decide), c3.keep hF (by decide) (by decide) (fun c _ _ => by omega), c4.keep hF (by decide) (by decide), c5.keep hF (by decide) (by decide), c6.keep hF (fun c _ _ => by omega), c7.cong (hF _ (by decide)) (hF _ (by decide)), c8.cong (hF _ (by decide)) (hF _ (by decide)), c9.cong (hF _ (by decide)), ⟨c10.1, e2.trans c10.2.1, fun i hi => by rw [hF _ (by decide), hF _ (by decide)]; exact c10.2.2 i hi⟩, c11.cong (hF _ (by decide)) (hF _ (by decide))⟩
  refine r_iload_n C 2 rfl rfl rfl ?_
  have : m = 0 ∨ m = 1 ∨ m = 2 := by omega
  rcases this with rfl | rfl | rfl
  · refine r_look C 48 rfl (by decide) rfl (by decide) ?_
    refine r_aload_n C 0 rfl rfl rfl rfl ?_
    refine r_getv C rfl f_X11_103 (by assumption) rfl ?_
    refine r_geti C rfl f_X11_387 (by assumption) rfl ?_
    rw [hB.1]
    exact q_iret C hQ rfl rfl rfl ⟨rfl, rfl, rfl, rfl, hC3, fun c hc => hF c (by omega)⟩
  · refine r_look C 56 rfl (by decide) rfl (by decide) ?_
    refine r_aload_n C 0 rfl rfl rfl rfl ?_
    refine r_getv C rfl f_X11_103 (by assumption) rfl ?_
    refine r_geti C rfl f_X11_390 (by assumption) rfl ?_
    rw [hB.2.1]
    exact q_iret C hQ rfl rfl rfl ⟨rfl, rfl, rfl, rfl, hC3, fun c hc => hF c (by omega)⟩
  · refine r_look C 64 rfl (by decide) rfl (by decide) ?_
    refine r_aload_n C 0 rfl rfl rfl rfl ?_
    refine r_getv C rfl f_X11_103 (by assumption) rfl ?_
    refine r_geti C rfl f_X11_393 (by assumption) rfl ?_
    rw [hB.2.2]
    exact q_iret C hQ rfl rfl rfl ⟨rfl, rfl, rfl, rfl, hC3, fun c hc => hF c (by omega)⟩
theorem K_guess (hU : MU Sh N tx) (hV : VI b x) (hC : CI M x) (p q : Int32) : Con E mX11_guess 20 8 48 [.ref 0, .int p, .int q] Sh N G M (PR Sh N (CQv M (guessA x p q).1 (guessA x p q).2)) (CX1 (guessA x p q).1) := by
  obtain ⟨u0, u1, u2, u3, u4, u6, u10, u14, uw, u31, ui, u48, u51, u116, u117, u120, u121, u124, u125, u128⟩ := id hU
  have kg := u128.1
  have hw4 := hV.1
  obtain ⟨c1, c2, c3, c4, c5, c6, c7, c8, c9, c10, c11⟩ := id hC
  refine Con.ofQ (by decide +kernel) (by simp [Value.category]) (Nat.le_of_ble_eq_true rfl) (fun k C0 Q hQ => ?_)
  have C : CK k E mX11_guess kdX11_guess 20 8 48 := ⟨C0, kdX11_guess_ok⟩
  refine r_aload_n C 0 rfl rfl rfl rfl ?_
  refine r_iload_n C 2 rfl rfl rfl ?_
  refine v1_x C rfl mfX11_wallAt lk_X11_197 (by assumption) (K_wallAt hU hV hC q) (by omega) (by omega) (fun X h => q_thr C hQ (Or.inl ⟨by rw [guessA, if_pos (Or.inr h.2)], h.1⟩)) ?_
  rintro y M1 ⟨rfl, w, hw, rfl, rfl⟩
  have hW := isW_nI (n := x.wn) (by omega) hw
  refine r_astore_n C 3 rfl rfl (by exact Nat.le_of_ble_eq_true rfl) rfl ?_
  refine r_iload_n C 1 rfl rfl rfl ?_
  refine r_ic (v := nI 3) C rfl (by decide) ?_
  refine s2_x C rfl mfX11_checkWhat lk_X11_322 (K_checkWhat p (nI 3)) (by omega) (by omega) (fun X h => q_thr C hQ (Or.inl ⟨by rw [guessA, if_pos (Or.inl h.2)], h.1⟩)) ?_
  rintro y M2 ⟨rfl, rfl, h1⟩
  obtain ⟨g, -, hg, rfl⟩ := (inI_iff (a := 0) (by decide) (by decide)).mp h1
  have ea : guessA x (nI g) (nI w) = (0, x.guess g w) := by rw [guessA, if_neg (by rintro (e | e); rw [show inI (nI g) 0 (nI 3) = true from h1] at e; cases e; rw [hW] at e; cases e), nI_clamp (by omega), nI_clamp (by omega)]
  rw [ea] at hQ
  refine r_aload_n C 0 rfl rfl rfl rfl ?_
  refine r_getv C rfl f_X11_110 (by assumption) rfl ?_
  refine r_iload_n C 1 rfl rfl rfl ?_
  refine r_aload_n C 3 rfl rfl rfl rfl ?_
  refine v2_g C rfl mfX2_keep lk_X11_396 (by assumption) (g_keep u128 (uw w (by omega)) (by omega) (hV.ow hw) (c6 w (by omega)) c11 g rfl (by omega)) ?_
  rintro y M3 ⟨rfl, hF, hG⟩
  refine q_vret C hQ rfl rfl ⟨rfl, rfl, rfl, rfl, ?_, fun c hc => hF c (by omega)⟩
  exact ⟨c1.keep hF (by decide) (by decide), c2.keep hF (by decide), c3.keep hF (by decide) (by decide) (fun c _ _ => by omega), c4.keep hF (by decide) (by decide), c5.keep hF (by decide) (by decide), c6.keep hF (fun c _ _ => by omega), c7.cong (hF _ (by decide)) (hF _ (by decide)), c8.cong (hF _ (by decide)) (hF _ (by decide)), c9.cong (hF _ (by decide)), c10.cong2 (hF _ (by decide)) (hF _ (by decide)) (hF _ (by decide)), hG⟩
theorem K_stick (hU : MU Sh N tx) (hC : CI M x) (p q z y : Int32) : Con E mX11_stick 20 8 48 [.ref 0, .int p, .int q, .int z, .int y] Sh N G M (PR Sh N (CQ M (stickA x p q z y).2.1 (stickA x p q z y).1 (stickA x p q z y).2.2)) (fun X => (stickA x p q z y).1 = 1 ∧ X = XI) := by
  obtain ⟨u0, u1, u2, u3, u4, u6, u10, u14, uw, u31, ui, u48, u51, u116, u117, u120, u121, u124, u125, u128⟩ := id hU
  have kg := u128.1
  obtain ⟨c1, c2, c3, c4, c5, c6, c7, c8, c9, c10, c11⟩ := id hC
  have bad : stickBad p q z y = true → (stickA x p q z y).1 = 1 := fun h => by rw [stickA, if_pos h]
  refine Con.ofQ (by decide +kernel) (by simp [Value.category]) (Nat.le_of_ble_eq_true rfl) (fun k C0 Q hQ => ?_)
  have C : CK k E mX11_stick kdX11_stick 20 8 48 := ⟨C0, kdX11_stick_ok⟩
  refine r_iload_n C 1 rfl rfl rfl ?_
  refine r_ic (v := nI 0) C rfl (by decide) ?_
  refine r_bi (v := nI 23) C rfl (by decide) ?_
  refine s3_x C rfl mfX11_checkRange lk_X11_292 (K_checkRange p (nI 0) (nI 23)) (by omega) (by omega) (fun X h => q_thr C hQ ⟨bad (by rw [stickBad, show inI p 0 (nI 23) = false from h.2]; rfl), h.1⟩) ?_
  rintro v M1 ⟨rfl, rfl, h1⟩
  refine r_iload_n C 2 rfl rfl rfl ?_
  refine r_ic (v := nI 0) C rfl (by decide) ?_
  refine r_ic (v := nI 5) C rfl (by decide) ?_
  refine s3_x C rfl mfX11_checkRange lk_X11_292 (K_checkRange q (nI 0) (nI 5)) (by omega) (by omega) (fun X h => q_thr C hQ ⟨bad (by rw [stickBad, show inI q 0 (nI 5) = false from h.2, Bool.not_false, Bool.or_true]; rfl), h.1⟩) ?_
  rintro v M2 ⟨rfl, rfl, h2⟩
  refine r_iload_n C 3 rfl rfl rfl ?_
  refine r_ic (v := nI 0) C rfl (by decide) ?_
  refine r_si (v := nI 400) C rfl (by decide) ?_
  refine s3_x C rfl mfX11_checkRange lk_X11_292 (K_checkRange z (nI 0) (nI 400)) (by omega) (by omega) (fun X h => q_thr C hQ ⟨bad (by rw [stickBad, show inI z 0 (nI 400) = false from h.2, Bool.not_false, Bool.or_true]; rfl), h.1⟩) ?_
  rintro v M3 ⟨rfl, rfl, h3⟩
  refine r_iload C rfl rfl ?_
  refine r_ic (v := nI 0) C rfl (by decide) ?_
  refine r_bi (v := nI 50) C rfl (by decide) ?_
  refine s3_x C rfl mfX11_checkRange lk_X11_292 (K_checkRange y (nI 0) (nI 50)) (by omega) (by omega) (fun X h => q_thr C hQ ⟨bad (by rw [stickBad, show inI y 0 (nI 50) = false from h.2, Bool.not_false, Bool.or_true]), h.1⟩) ?_
  rintro v M4 ⟨rfl, rfl, h4⟩
  have hnb : stickBad p q z y = false := by rw [stickBad, show inI p 0 (nI 23) = true from h1, show inI q 0 (nI 5) = true from h2, show inI z 0 (nI 400) = true from h3, show inI y 0 (nI 50) = true from h4]; rfl
  obtain ⟨l, -, hl, rfl⟩ := (inI_iff (a := 0) (by decide) (by decide)).mp h1
  obtain ⟨c, -, hc, rfl⟩ := (inI_iff (a := 0) (by decide) (by decide)).mp h2
  have ea : stickA x (nI l) (nI c) z y = (0, nI (cntB (fun i => gFit (x.Gs i) (6 * l + c) z y) 4), x.setG x.Gs (crUp x.Gs x.Cr (6 * l + c) z y 4)) := by
    rw [stickA, if_neg (by rw [hnb]; decide), nI_clamp (by omega), nI_clamp (by omega)]
  rw [ea] at hQ
  refine r_aload_n C 0 rfl rfl rfl rfl ?_
  refine r_getv C rfl f_X11_110 (by assumption) rfl ?_
  refine r_iload_n C 1 rfl rfl rfl ?_
  refine r_bi (v := nI 6) C rfl (by decide) ?_
  refine r_imul C rfl ?_
  rw [pk_mul]
  refine r_iload_n C 2 rfl rfl rfl ?_
  refine r_iadd C rfl ?_
  rw [nI_add, show l * 6 + c = 6 * l + c by omega]
  refine r_iload_n C 3 rfl rfl rfl ?_
  refine r_iload C rfl rfl ?_
  refine v3_g C rfl mfX2_reading lk_X11_400 (by assumption) (g_reading u128 c11 (6 * l + c) rfl (by omega) z y) ?_
  rintro v M5 ⟨rfl, hF, hG⟩
  refine q_iret C hQ rfl rfl rfl ⟨rfl, rfl, rfl, rfl, ?_, fun c hc => hF c (by omega)⟩
  exact ⟨c1.keep hF (by decide) (by decide), c2.keep hF (by decide), c3.keep hF (by decide) (by decide) (fun c _ _ => by omega), c4.keep hF (by decide) (by decide), c5.keep hF (by decide) (by decide), c6.keep hF (fun c _ _ => by omega), c7.cong (hF _ (by decide)) (hF _ (by decide)), c8.cong (hF _ (by decide)) (hF _ (by decide)), c9.cong (hF _ (by decide)), c10.cong2 (hF _ (by decide)) (hF _ (by decide)) (hF _ (by decide)), hG⟩
theorem K_credit (hU : MU Sh N tx) (hC : CI M x) (p : Int32) : Con E mX11_credit 20 8 48 [.ref 0, .int p] Sh N G M (PR Sh N (CQ M (creditA x p).2 (creditA x p).1 x)) (CX1 (creditA x p).1) := by
  obtain ⟨u0, u1, u2, u3, u4, u6, u10, u14, uw, u31, ui, u48, u51, u116, u117, u120, u121, u124, u125, u128⟩ := id hU
  obtain ⟨kg, kg1, kg2⟩ := u128
  have c11 := hC.2.2.2.2.2.2.2.2.2.2
  refine Con.ofQ (by decide +kernel) (by simp [Value.category]) (Nat.le_of_ble_eq_true rfl) (fun k C0 Q hQ => ?_)
  have C : CK k E mX11_credit kdX11_credit 20 8 48 := ⟨C0, kdX11_credit_ok⟩
  refine r_iload_n C 1 rfl rfl rfl ?_
  refine r_ic (v := nI 3) C rfl (by decide) ?_
  refine s2_x C rfl mfX11_checkWhat lk_X11_322 (K_checkWhat p (nI 3)) (by omega) (by omega) (fun X h => q_thr C hQ (Or.inl ⟨by rw [creditA, if_pos h.2], h.1⟩)) ?_
  rintro y M1 ⟨rfl, rfl, h1⟩
  obtain ⟨g, -, hg, rfl⟩ := (inI_iff (a := 0) (by decide) (by decide)).mp h1
  have ea : creditA x (nI g) = (0, gC (x.Gs g) (x.Cr g)) := by rw [creditA, if_neg (by rw [show inI (nI g) 0 (nI 3) = true from h1]; decide), nI_clamp (by omega)]
  rw [ea] at hQ
  refine r_aload_n C 0 rfl rfl rfl rfl ?_
  refine r_getv C rfl f_X11_110 (by assumption) rfl ?_
  refine r_getv C rfl f_X11_404 (by assumption) rfl ?_
  refine r_iload_n C 1 rfl rfl rfl ?_
  refine r_iald C rfl (by assumption) (g) rfl (by omega) (by decide) ?_
  rw [(c11 g (by omega)).2]
  exact q_iret C hQ rfl rfl rfl ⟨rfl, rfl, rfl, rfl, hC, fun _ _ => rfl⟩
theorem K_where (hU : MU Sh N tx) (hC : CI M x) : Con E mX11_where 20 0 0 [.ref 0] Sh N G M (PR Sh N (CQ M (whX x.Gs 144).1 0 x)) nox := by
  obtain ⟨u0, u1, u2, u3, u4, u6, u10, u14, uw, u31, ui, u48, u51, u116, u117, u120, u121, u124, u125, u128⟩ := id hU
  have kg := u128.1
  refine Con.ofQ (by decide +kernel) (by simp [Value.category]) (Nat.le_of_ble_eq_true rfl) (fun k C0 Q hQ => ?_)
  have C : CK k E mX11_where kdX11_where 20 0 0 := ⟨C0, kdX11_where_ok⟩
  refine r_aload_n C 0 rfl rfl rfl rfl ?_
  refine r_getv C rfl f_X11_110 (by assumption) rfl ?_
  refine v0_r C rfl mfX2_farthestApart lk_X11_407 (by assumption) (g_far u128 hC.2.2.2.2.2.2.2.2.2.2) ?_
  exact q_iret C hQ rfl rfl rfl ⟨rfl, rfl, rfl, rfl, hC, fun _ _ => rfl⟩
/-- walls are copied one by one -/
theorem K_copy {f t f0 t0 : Nat} (hf : At Sh N f (arW 4 (fun j => some (f0 + 4 * j)))) (ht : At Sh N t (arW 4 (fun j => some (t0 + 4 * j)))) (hfw : ∀ i, i < 4 → WA Sh N (f0 + 4 * i) 10) (htw : ∀ i, i < 4 → WA Sh N (t0 + 4 * i) 10) (hd : f0 + 16 ≤ t0 ∨ t0 + 16 ≤ f0) {Rf : Nat → Row} (hO : ∀ i, i < 4 → OK b (Rf i)) (a : ∀ i, i < 4 → Ag (wrow M (f0 + 4 * i)) (Rf i)) : Con E mX11_copyWalls 2 0 0 [.ref f, .ref t] Sh N G M (PR Sh N (fun v M' => v = none ∧ Fr (fun c => t0 ≤ c ∧ c < t0 + 16) M M' ∧ ∀ i, i < 4 → Ag (wrow M' (t0 + 4 * i)) (Rf i))) nox := by
  refine Con.ofQ (by decide +kernel) (by simp [Value.category]) (Nat.le_of_ble_eq_true rfl) (fun k C0 Q hQ => ?_)
  have C : CK k E mX11_copyWalls kdX11_copyWalls 2 0 0 := ⟨C0, kdX11_copyWalls_ok⟩
  have loop : ∀ (m i : Nat) (M1 : MM), i + m = 4 → Fr (fun c => t0 ≤ c ∧ c < t0 + 16) M M1 → (∀ j, j < i → Ag (wrow M1 (t0 + 4 * j)) (Rf j)) → PT k E Q 0 0 Sh N G M1 2 [some (.ref f), some (.ref t), some (.int (nI i))] [] := by
    intro m
    induction m with
    | zero =>
      intro i M1 hi hF hr
      have e : i = 4 := by omega
      subst e
      refine r_iload_n C 2 rfl rfl rfl ?_
      refine r_aload_n C 0 rfl rfl rfl rfl ?_
      refine r_alen4 C rfl hf ?_
      refine r_icmp_ge C 29 rfl (by decide) (fun _ => ?_) (fun z => absurd (by decide) z)
      exact q_vret C hQ rfl rfl ⟨rfl, rfl, rfl, hF, hr⟩
    | succ m ih =>
      intro i M1 hi hF hr
      have hA := htw i (by omega)
      have a0 := hA.1
      refine r_iload_n C 2 rfl rfl rfl ?_
      refine r_aload_n C 0 rfl rfl rfl rfl ?_
      refine r_alen4 C rfl hf ?_
      refine r_icmp_ge C 29 rfl (by decide) (fun z => absurd (le_nI (by omega) (by omega) z) (by omega)) (fun _ => ?_)
      refine r_iload_n C 2 rfl rfl rfl ?_
      refine r_aload_n C 1 rfl rfl rfl rfl ?_
      refine r_alen4 C rfl ht ?_
      refine r_icmp_ge C 29 rfl (by decide) (fun z => absurd (le_nI (by omega) (by omega) z) (by omega)) (fun _ => ?_)
      refine r_aload_n C 1 rfl rfl rfl rfl ?_
      refine r_iload_n C 2 rfl rfl rfl ?_
      refine r_aald C rfl ht (i) rfl (by omega) (by decide) rfl ?_
      refine r_aload_n C 0 rfl rfl rfl rfl ?_
      refine r_iload_n C 2 rfl rfl rfl ?_
      refine r_aald C rfl hf (i) rfl (by omega) (by decide) rfl ?_
      refine v1_g C rfl mfX8_become lk_X11_420 (by assumption) (p_become hA (hfw i (by omega)) (by omega) (hO i (by omega)) (by rw [hF.row (f0 + 4 * i) (fun c _ _ => by omega)]; exact a i (by omega))) ?_
      rintro z M2 ⟨rfl, a2, hF2⟩
      refine r_iinc (c := nI 1) C rfl rfl (by decide) ?_
      refine r_goto C 2 rfl (by decide) ?_
      refine r_eqL ?_ (ih (i + 1) M2 (by omega) (hF.trans hF2 (fun _ q => q) (fun c q => by omega)) (fun j hj => ?_))
      · first | rfl | (simp only [sm, add3, nI_add, Int32.add_zero, Int32.zero_add]; rfl)
      · by_cases e : j = i
        · rw [e]; exact a2
        · rw [hF2.row (t0 + 4 * j) (fun c _ _ => by omega)]; exact hr j (by omega)
  refine r_ic (v := nI 0) C rfl (by decide) ?_
  refine r_istore_n C 2 rfl rfl (by exact Nat.le_of_ble_eq_true rfl) ?_
  exact loop 4 0 M (by omega) Fr.rfl (fun j hj => absurd hj (Nat.not_lt_zero j))
theorem K_image (hU : MU Sh N tx) (hV : VI b x) (hC : CI M x) : Con E mX11_image 20 0 0 [.ref 0] Sh N G M (PR Sh N (CQv M 0 (x.setIm true x.Rw x.st))) nox := by
  obtain ⟨u0, u1, u2, u3, u4, u6, u10, u14, uw, u31, ui, u48, u51, u116, u117, u120, u121, u124, u125, u128⟩ := id hU
  obtain ⟨c1, c2, c3, c4, c5, c6, c7, c8, c9, c10, c11⟩ := id hC
  refine Con.ofQ (by decide +kernel) (by simp [Value.category]) (Nat.le_of_ble_eq_true rfl) (fun k C0 Q hQ => ?_)
  have C : CK k E mX11_image kdX11_image 20 0 0 := ⟨C0, kdX11_image_ok⟩
  refine r_aload_n C 0 rfl rfl rfl rfl ?_
  refine r_ic (v := nI 1) C rfl (by decide) ?_
  refine r_puti C rfl f_X11_151 (by assumption) rfl rfl rfl ?_
  have hF0 : Fr (fun c => c = 0) M (up M 0 5 (nI 1)) := fun c hc => up_row _ _ hc
  refine r_aload_n C 0 rfl rfl rfl rfl ?_
  refine r_getv C rfl f_X11_45 (by assumption) rfl ?_
  refine r_aload_n C 0 rfl rfl rfl rfl ?_
  refine r_getv C rfl f_X11_49 (by assumption) rfl ?_
  refine s2_x C rfl mfX11_copyWalls lk_X11_410 (K_copy u14 u31 uw ui (by omega) hV.2.2.1 (fun i hi => by rw [hF0.row (15 + 4 * i) (fun c _ _ => by omega)]; exact c6 i hi)) (Nat.zero_le _) (Nat.zero_le _) (fun _ h => h.elim) ?_
  rintro z M1 ⟨rfl, hF1, hr⟩
  refine r_aload_n C 0 rfl rfl rfl rfl ?_
  refine r_getv C rfl f_X11_17 (by assumption) rfl ?_
  refine r_ic (v := nI 0) C rfl (by decide) ?_
  refine r_aload_n C 0 rfl rfl rfl rfl ?_
  refine r_getv C rfl f_X11_21 (by assumption) rfl ?_
  refine r_ic (v := nI 0) C rfl (by decide) ?_
  refine r_aload_n C 0 rfl rfl rfl rfl ?_
  refine r_getv C rfl f_X11_17 (by assumption) rfl ?_
  refine r_alen C rfl u2 (by decide) ?_
  refine r_acopy C 0 0 4 rfl lkac_X11_414 u2 u3 rfl rfl rfl (by omega) (by omega) (by decide) (by decide) ?_
  have hF2 : Fr (fun c => c = 3) M1 (aset M1 3 (va_cpy (M1 2) (M1 3) 0 0 4)) := aset_fr _ _ _
  have hF' : Fr (fun c => c = 0 ∨ c = 3 ∨ (32 ≤ c ∧ c < 48)) M (aset M1 3 (va_cpy (M1 2) (M1 3) 0 0 4)) := ((hF0.trans hF1 (U := fun c => c = 0 ∨ c = 3 ∨ (32 ≤ c ∧ c < 48)) (fun _ q => Or.inl q) (fun c q => by omega)).trans hF2 (fun _ q => q) (fun c q => by omega))
  have h0 : ∀ j, j ≠ 5 → aset M1 3 (va_cpy (M1 2) (M1 3) 0 0 4) 0 j = M 0 j := fun j hj => by rw [aset_ne _ _ (by decide), hF1 0 (by omega), up_ne _ _ (by omega)]
  refine q_vret C hQ rfl rfl ⟨rfl, rfl, rfl, rfl, ?_, fun c hc => hF' c (by omega)⟩
  refine ⟨⟨by rw [h0 1 (by decide)]; exact c1.1, by rw [hF' 1 (by decide)]; exact c1.2.1, by rw [h0 2 (by decide)]; exact c1.2.2⟩, c2.keep hF' (by decide), ⟨by rw [aset_ne _ _ (by decide), hF1 0 (by omega), up_same]; rfl, fun _ => ⟨fun i hi => ?_, fun i hi => ?_⟩⟩, c4.keep hF' (by decide) (by decide), c5.keep hF' (by decide) (by decide), c6.keep hF' (fun c _ _ => by omega), c7.cong (hF' _ (by decide)) (hF' _ (by decide)), c8.cong (hF' _ (by decide)) (hF' _ (by decide)), c9.cong (hF' _ (by decide)), c10.cong2 (hF' _ (by decide)) (hF' _ (by decide)) (hF' _ (by decide)), c11.cong (hF' _ (by decide)) (hF' _ (by decide))⟩
  · rw [hF2.row (32 + 4 * i) (fun c _ _ => by omega)]
    exact hr i hi
  · rw [aset_own, pk_cpy_in (Nat.zero_le i) (by omega), show 0 + (i - 0) = i by omega, hF1 2 (by omega), hF0 2 (by decide)]
    exact c2 i hi
theorem K_restore (hU : MU Sh N tx) (hV : VI b x) (hC : CI M x) : Con E mX11_restore 20 0 0 [.ref 0] Sh N G M (PR Sh N (CQ M (bI x.im) 0 x.back)) nox := by
  obtain ⟨u0, u1, u2, u3, u4, u6, u10, u14, uw, u31, ui, u48, u51, u116, u117, u120, u121, u124, u125, u128⟩ := id hU
  obtain ⟨c1, c2, c3, c4, c5, c6, c7, c8, c9, c10, c11⟩ := id hC
  refine Con.ofQ (by decide +kernel) (by simp [Value.category]) (Nat.le_of_ble_eq_true rfl) (fun k C0 Q hQ => ?_)
  have C : CK k E mX11_restore kdX11_restore 20 0 0 := ⟨C0, kdX11_restore_ok⟩
  refine r_aload_n C 0 rfl rfl rfl rfl ?_
  refine r_geti C rfl f_X11_151 (by assumption) rfl ?_
  rw [c3.1]
  cases him : x.im with
  | false =>
    refine r_if_ne C 9 rfl (by decide) (fun h => absurd rfl h) (fun _ => ?_)
    refine r_ic (v := nI 0) C rfl (by decide) ?_
    exact q_iret C hQ rfl rfl rfl ⟨rfl, rfl, rfl, by rw [him]; rfl, by rw [ST.back, him, if_neg ff_t]; exact hC, fun _ _ => rfl⟩
  | true =>
    refine r_if_ne C 9 rfl (by decide) (fun _ => ?_) (fun h => absurd h (by decide))
    obtain ⟨i1, i2⟩ := c3.2 him
    refine r_aload_n C 0 rfl rfl rfl rfl ?_
    refine r_getv C rfl f_X11_49 (by assumption) rfl ?_
    refine r_aload_n C 0 rfl rfl rfl rfl ?_
    refine r_getv C rfl f_X11_45 (by assumption) rfl ?_
    refine s2_x C rfl mfX11_copyWalls lk_X11_410 (K_copy u31 u14 ui uw (by omega) (hV.2.2.2.2.1 him).1 i1) (Nat.zero_le _) (Nat.zero_le _) (fun _ h => h.elim) ?_
    rintro z M1 ⟨rfl, hF1, hr⟩
    refine r_aload_n C 0 rfl rfl rfl rfl ?_
    refine r_getv C rfl f_X11_21 (by assumption) rfl ?_
    refine r_ic (v := nI 0) C rfl (by decide) ?_
    refine r_aload_n C 0 rfl rfl rfl rfl ?_
    refine r_getv C rfl f_X11_17 (by assumption) rfl ?_
    refine r_ic (v := nI 0) C rfl (by decide) ?_
    refine r_aload_n C 0 rfl rfl rfl rfl ?_
    refine r_getv C rfl f_X11_17 (by assumption) rfl ?_
    refine r_alen C rfl u2 (by decide) ?_
    refine r_acopy C 0 0 4 rfl lkac_X11_414 u3 u2 rfl rfl rfl (by omega) (by omega) (by decide) (by decide) ?_
    have hF2 : Fr (fun c => c = 2) M1 (aset M1 2 (va_cpy (M1 3) (M1 2) 0 0 4)) := aset_fr _ _ _
    have hF' : Fr (fun c => c = 2 ∨ (15 ≤ c ∧ c < 31)) M (aset M1 2 (va_cpy (M1 3) (M1 2) 0 0 4)) := hF1.trans hF2 (fun c q => by omega) (fun c q => by omega)
    refine r_ic (v := nI 1) C rfl (by decide) ?_
    refine q_iret C hQ rfl rfl rfl ⟨rfl, rfl, rfl, by rw [him]; rfl, ?_, fun c hc => hF' c (by omega)⟩
    rw [ST.back, him, if_pos tt_t]
    refine ⟨c1.keep hF' (by decide) (by decide), fun i hi => ?_, c3.keep hF' (by decide) (by decide) (fun c _ _ => by omega), c4.keep hF' (by decide) (by decide), c5.keep hF' (by decide) (by decide), fun i hi => ?_, c7.cong (hF' _ (by decide)) (hF' _ (by decide)), c8.cong (hF' _ (by decide)) (hF' _ (by decide)), c9.cong (hF' _ (by decide)), c10.cong2 (hF' _ (by decide)) (hF' _ (by decide)) (hF' _ (by decide)), c11.cong (hF' _ (by decide)) (hF' _ (by decide))⟩
    · rw [aset_own, pk_cpy_in (Nat.zero_le i) (by omega), show 0 + (i - 0) = i by omega, hF1 3 (by omega)]
      exact i2 i hi
    · rw [hF2.row (15 + 4 * i) (fun c _ _ => by omega)]
      exact hr i hi
end CPUBD
