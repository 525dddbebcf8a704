section CPUBC
variable {E : VE} {Sh : Nat → SE} {N : Nat} {G : Bool} {M M' M'' : MM} {tx b w yd : Nat} {x : ST} {R : Row} {Y : YD}
theorem K_line (hU : MU Sh N tx) (hV : VI b x) (hb : b < 2 ^ 26) (hC : CI M x) (p q z : Int32) : Con E mX11_line 20 8 48 [.ref 0, .int p, .int q, .int z] Sh N G M (PR Sh N (CQ M (lineA x.ye x.wn x.Rw p q z).2 (lineA x.ye x.wn x.Rw p q z).1 x)) (CX1 (lineA x.ye x.wn x.Rw p q z).1) := by
  obtain ⟨u0, u1, u2, u3, u4, u6, u10, u14, uw, u31, ui, u48, u51, u116, u117, u120, u121, u124, u125, u128⟩ := id hU
  have hw4 := hV.1
  have f0 : At Sh N 116 _ := u116
  refine Con.ofQ (by decide +kernel) (by simp [Value.category]) (Nat.le_of_ble_eq_true rfl) (fun k C0 Q hQ => ?_)
  have C : CK k E mX11_line kdX11_line 20 8 48 := ⟨C0, kdX11_line_ok⟩
  refine r_aload_n C 0 rfl rfl rfl rfl ?_
  refine r_iload_n C 1 rfl rfl rfl ?_
  refine v1_x C rfl mfX11_wallAt lk_X11_197 (by assumption) (K_wallAt hU hV hC p) (by omega) (by omega) (fun X h => q_thr C hQ (Or.inl ⟨by rw [lineA, if_pos (Or.inl h.2)], h.1⟩)) ?_
  rintro y M1 ⟨rfl, w, hw, rfl, rfl⟩
  have hA := uw w (by omega)
  have hW := isW_nI (n := x.wn) (by omega) hw
  refine r_astore C rfl (by exact Nat.le_of_ble_eq_true rfl) rfl ?_
  refine r_iload_n C 3 rfl rfl rfl ?_
  refine r_ic (v := nI 2) C rfl (by decide) ?_
  refine s2_x C rfl mfX11_checkWhat lk_X11_322 (K_checkWhat z (nI 2)) (by omega) (by omega) (fun X h => q_thr C hQ (Or.inl ⟨by rw [lineA, if_pos (Or.inr h.2)], h.1⟩)) ?_
  rintro y M2 ⟨rfl, rfl, h1⟩
  have hn1 : ¬ (isW (nI w) x.wn = false ∨ inI z 0 (nI 2) = false) := by rintro (e | e); rw [hW] at e; cases e; rw [h1] at e; cases e
  refine r_iload_n C 2 rfl rfl rfl ?_
  refine r_ic (v := nI 1) C rfl (by decide) ?_
  refine r_si (v := nI 520) C rfl (by decide) ?_
  refine s3_x C rfl mfX11_checkRange lk_X11_292 (K_checkRange q (nI 1) (nI 520)) (by omega) (by omega) (fun X h => q_thr C hQ (Or.inr ⟨by rw [lineA, if_neg hn1, if_pos h.2], h.1⟩)) ?_
  rintro y M3 ⟨rfl, rfl, h2⟩
  obtain ⟨n, hn1', hn, rfl⟩ := (inI_iff (by decide) (by decide)).mp h2
  obtain ⟨m, -, hm, rfl⟩ := (inI_iff (a := 0) (by decide) (by decide)).mp h1
  have ea : lineA x.ye x.wn x.Rw (nI w) (nI n) (nI m) = (0, lineV x.ye n m (x.Rw w)) := by rw [lineA, if_neg hn1, if_neg (by rw [h2]; decide), nI_clamp (by omega), nI_clamp (by omega), nI_clamp (by omega)]
  rw [ea] at hQ
  have hY := hC.2.2.2.2.1.2
  have aw := hC.2.2.2.2.2.1 w (by omega)
  refine r_iload_n C 3 rfl rfl rfl ?_
  have : m = 0 ∨ m = 1 ∨ m = 2 := by omega
  rcases this with rfl | rfl | rfl
  · refine r_look C 48 rfl (by decide) rfl (by decide) ?_
    refine r_aload_n C 0 rfl rfl rfl rfl ?_
    refine r_getv C rfl f_X11_66 (by assumption) rfl ?_
    refine r_aload C rfl rfl rfl ?_
    refine r_iload_n C 2 rfl rfl rfl ?_
    refine v2_g C rfl mfX1_fewestShoes lk_X11_338 (by assumption) (f_shoes u116 hA (u51.2 0 (by decide)) (u51.2 1 (by decide)) u48 (by omega) (by omega) hY hV.2.1 (hV.ow hw) (by omega) aw n rfl (by omega)) ?_
    rintro z M4 ⟨rfl, hF4⟩
    exact q_iret C hQ rfl rfl rfl ⟨rfl, rfl, rfl, rfl, hC.keep hF4 (fun c q => by simp only [SU]; simp only [FS, TS] at q; omega), fun c hc => hF4 c (by simp only [FS, TS]; omega)⟩
  · refine r_look C 59 rfl (by decide) rfl (by decide) ?_
    refine r_aload_n C 0 rfl rfl rfl rfl ?_
    refine r_getv C rfl f_X11_66 (by assumption) rfl ?_
    refine r_aload C rfl rfl rfl ?_
    refine r_iload_n C 2 rfl rfl rfl ?_
    refine v2_g C rfl mfX1_leastOuter lk_X11_341 (by assumption) (f_outer u116 hA (u51.2 0 (by decide)) (u51.2 1 (by decide)) u48 (by omega) (by omega) hY hV.2.1 (hV.ow hw) (by omega) aw n rfl (by omega)) ?_
    rintro z M4 ⟨rfl, hF4⟩
    exact q_iret C hQ rfl rfl rfl ⟨rfl, rfl, rfl, rfl, hC.keep hF4 (fun c q => by simp only [SU]; simp only [FS, TS] at q; omega), fun c hc => hF4 c (by simp only [FS, TS]; omega)⟩
  · refine r_look C 70 rfl (by decide) rfl (by decide) ?_
    refine r_aload_n C 0 rfl rfl rfl rfl ?_
    refine r_getv C rfl f_X11_66 (by assumption) rfl ?_
    refine r_aload C rfl rfl rfl ?_
    refine r_iload_n C 2 rfl rfl rfl ?_
    refine v2_g C rfl mfX1_footPaste lk_X11_344 (by assumption) (f_foot u116 hA (u51.2 0 (by decide)) (u51.2 1 (by decide)) u48 (by omega) (by omega) hY hV.2.1 (hV.ow hw) (by omega) aw n rfl (by omega)) ?_
    rintro z M4 ⟨rfl, hF4⟩
    exact q_iret C hQ rfl rfl rfl ⟨rfl, rfl, rfl, rfl, hC.keep hF4 (fun c q => by simp only [SU]; simp only [FS, TS] at q; omega), fun c hc => hF4 c (by simp only [FS, TS]; omega)⟩
theorem K_plan (hU : MU Sh N tx) (hV : VI b x) (hb : b < 2 ^ 26) (hC : CI M x) (p q : Int32) : Con E mX11_plan 20 8 48 [.ref 0, .int p, .int q] Sh N G M (PR Sh N (CQ M (planI (planA x.ye x.wn x.Rw p q).2) (planA x.ye x.wn x.Rw p q).1 (x.setPl (planK x.pl (planA x.ye x.wn x.Rw p q).2)))) (CX1 (planA x.ye x.wn x.Rw p q).1) := by
  obtain ⟨u0, u1, u2, u3, u4, u6, u10, u14, uw, u31, ui, u48, u51, u116, u117, u120, u121, u124, u125, u128⟩ := id hU
  have hw4 := hV.1
  have f0 := u117.1
  refine Con.ofQ (by decide +kernel) (by simp [Value.category]) (Nat.le_of_ble_eq_true rfl) (fun k C0 Q hQ => ?_)
  have C : CK k E mX11_plan kdX11_plan 20 8 48 := ⟨C0, kdX11_plan_ok⟩
  refine r_aload_n C 0 rfl rfl rfl rfl ?_
  refine r_iload_n C 1 rfl rfl rfl ?_
  refine v1_x C rfl mfX11_wallAt lk_X11_197 (by assumption) (K_wallAt hU hV hC p) (by omega) (by omega) (fun X h => q_thr C hQ (Or.inl ⟨by rw [planA, if_pos h.2], h.1⟩)) ?_
  rintro y M1 ⟨rfl, w, hw, rfl, rfl⟩
  have hA := uw w (by omega)
  have hW := isW_nI (n := x.wn) (by omega) hw
  refine r_astore_n C 3 rfl rfl (by exact Nat.le_of_ble_eq_true rfl) rfl ?_
  refine r_iload_n C 2 rfl rfl rfl ?_
  refine r_ic (v := nI 1) C rfl (by decide) ?_
  refine r_bi (v := nI 24) C rfl (by decide) ?_
  refine s3_x C rfl mfX11_checkRange lk_X11_292 (K_checkRange q (nI 1) (nI 24)) (by omega) (by omega) (fun X h => q_thr C hQ (Or.inr ⟨by rw [planA, if_neg (by rw [hW]; decide), if_pos h.2], h.1⟩)) ?_
  rintro y M2 ⟨rfl, rfl, h2⟩
  obtain ⟨n, hn1, hn, rfl⟩ := (inI_iff (by decide) (by decide)).mp h2
  have ea : planA x.ye x.wn x.Rw (nI w) (nI n) = (0, some (plN x.ye n (x.Rw w) 0 6)) := by rw [planA, if_neg (by rw [hW]; decide), if_neg (by rw [h2]; decide), nI_clamp (by omega), nI_clamp (by omega)]
  rw [ea] at hQ
  obtain ⟨c1, c2, c3, c4, c5, c6, c7, c8, c9, c10, c11⟩ := id hC
  refine r_aload_n C 0 rfl rfl rfl rfl ?_
  refine r_getv C rfl f_X11_75 (by assumption) rfl ?_
  refine r_aload_n C 3 rfl rfl rfl rfl ?_
  refine r_iload_n C 2 rfl rfl rfl ?_
  refine v2_g C rfl mfX5_weeksTo lk_X11_311 (by assumption) (p_plan u117 u51 hA u48 (by omega) (by omega) (by omega) hV.2.1 n rfl (by omega) c5.2 (hV.ow hw) (by omega) (c6 w (by omega)) c7) ?_
  rintro z M3 ⟨rfl, hF3, hk⟩
  rw [plK_R] at hk
  have nS : ∀ c, ¬ ((52 ≤ c ∧ c < 116) ∨ c = 49 ∨ c = 50 ∨ (117 ≤ c ∧ c < 120)) → M3 c = M2 c := fun c q => hF3 c (by simp only [PS2, TS]; omega)
  have hF' : Fr (fun c => (52 ≤ c ∧ c < 116) ∨ c = 49 ∨ c = 50 ∨ (117 ≤ c ∧ c < 120)) M2 M3 := nS
  refine q_iret C hQ rfl rfl rfl ⟨rfl, rfl, rfl, rfl, ?_, fun c hc => nS c (by omega)⟩
  exact ⟨c1.keep hF' (by decide) (by decide), c2.keep hF' (by decide), c3.keep hF' (by decide) (by decide) (fun c _ _ => by omega), c4.keep hF' (by decide) (by decide), c5.keep hF' (by decide) (by decide), c6.keep hF' (fun c _ _ => by omega), hk, c8.cong (hF' _ (by decide)) (hF' _ (by decide)), c9.cong (hF' _ (by decide)), c10.cong2 (hF' _ (by decide)) (hF' _ (by decide)) (hF' _ (by decide)), c11.cong (hF' _ (by decide)) (hF' _ (by decide))⟩
theorem K_order (hU : MU Sh N tx) (hV : VI b x) (hb : b < 2 ^ 26) (hC : CI M x) (p q : Int32) : Con E mX11_order 20 8 48 [.ref 0, .int p, .int q] Sh N G M (PR Sh N (CQ M (orI (orderA x.ye x.wn x.Rw x.od p q).2) (orderA x.ye x.wn x.Rw x.od p q).1 (x.setOd (orK x.od (orderA x.ye x.wn x.Rw x.od p q).2)))) (CX1 (orderA x.ye x.wn x.Rw x.od p q).1) := by
  obtain ⟨u0, u1, u2, u3, u4, u6, u10, u14, uw, u31, ui, u48, u51, u116, u117, u120, u121, u124, u125, u128⟩ := id hU
  have hw4 := hV.1
  have f0 := u121.1
  refine Con.ofQ (by decide +kernel) (by simp [Value.category]) (Nat.le_of_ble_eq_true rfl) (fun k C0 Q hQ => ?_)
  have C : CK k E mX11_order kdX11_order 20 8 48 := ⟨C0, kdX11_order_ok⟩
  refine r_aload_n C 0 rfl rfl rfl rfl ?_
  refine r_iload_n C 1 rfl rfl rfl ?_
  refine v1_x C rfl mfX11_wallAt lk_X11_197 (by assumption) (K_wallAt hU hV hC p) (by omega) (by omega) (fun X h => q_thr C hQ (Or.inl ⟨by rw [orderA, if_pos h.2], h.1⟩)) ?_
  rintro y M1 ⟨rfl, w, hw, rfl, rfl⟩
  have hA := uw w (by omega)
  have hW := isW_nI (n := x.wn) (by omega) hw
  refine r_astore_n C 3 rfl rfl (by exact Nat.le_of_ble_eq_true rfl) rfl ?_
  refine r_iload_n C 2 rfl rfl rfl ?_
  refine r_ic (v := nI 0) C rfl (by decide) ?_
  refine r_bi (v := nI 63) C rfl (by decide) ?_
  refine s3_x C rfl mfX11_checkRange lk_X11_292 (K_checkRange q (nI 0) (nI 63)) (by omega) (by omega) (fun X h => q_thr C hQ (Or.inr ⟨by rw [orderA, if_neg (by rw [hW]; decide), if_pos (show inI q 0 (nI 63) = false from h.2)], h.1⟩)) ?_
  rintro y M2 ⟨rfl, rfl, h2⟩
  have h2 : inI q 0 (nI 63) = true := h2
  obtain ⟨n, -, hn, rfl⟩ := (inI_iff (a := 0) (by decide) (by decide)).mp h2
  have ea : orderA x.ye x.wn x.Rw x.od (nI w) (nI n) = (0, some (orF x.ye (pcN n) n (x.Rw w) [] (0, x.od.getD []))) := by rw [orderA, if_neg (by rw [hW]; decide), if_neg (by rw [show inI (nI n) 0 (nI 63) = true from h2]; decide), nI_clamp (by omega), nI_clamp (by omega)]
  rw [ea] at hQ
  obtain ⟨c1, c2, c3, c4, c5, c6, c7, c8, c9, c10, c11⟩ := id hC
  refine r_aload_n C 0 rfl rfl rfl rfl ?_
  refine r_getv C rfl f_X11_89 (by assumption) rfl ?_
  refine r_aload_n C 3 rfl rfl rfl rfl ?_
  refine r_iload_n C 2 rfl rfl rfl ?_
  refine v2_g C rfl mfX4_leastBulges lk_X11_350 (by assumption) (o_least u121 u51 u48 hA (by omega) (by omega) (by omega) hV.2.1 n rfl (by omega) c5.2 (hV.ow hw) (by omega) (c6 w (by omega)) c8) ?_
  rintro z M3 ⟨rfl, hF3, hk⟩
  have nS : ∀ c, ¬ ((52 ≤ c ∧ c < 116) ∨ c = 49 ∨ c = 50 ∨ (121 ≤ c ∧ c < 124)) → M3 c = M2 c := fun c q => hF3 c (by simp only [TS]; omega)
  have hF' : Fr (fun c => (52 ≤ c ∧ c < 116) ∨ c = 49 ∨ c = 50 ∨ (121 ≤ c ∧ c < 124)) M2 M3 := nS
  have hP := orF_P (Y := x.ye) hV.2.1 (T := pcN n) (l0 := x.od.getD []) (n := pcN n) (L := n) (pre := []) (st := (0, x.od.getD [])) (hV.ow hw) (by have := @pc_le n; omega) (by show 0 + pcN n = pcN n; omega) ⟨Nat.zero_le _, fun _ => rfl, fun z => absurd rfl z⟩
  have ek : (orK x.od (some (orF x.ye (pcN n) n (x.Rw w) [] (0, x.od.getD [])))).getD [] = (orF x.ye (pcN n) n (x.Rw w) [] (0, x.od.getD [])).2 := by
    simp only [orK]
    by_cases z : (orF x.ye (pcN n) n (x.Rw w) [] (0, x.od.getD [])).1 = 0
    · rw [if_pos z]; exact (hP.2.1 z).symm
    · rw [if_neg z]; rfl
  refine q_iret C hQ rfl rfl rfl ⟨rfl, rfl, rfl, rfl, ?_, fun c hc => nS c (by omega)⟩
  exact ⟨c1.keep hF' (by decide) (by decide), c2.keep hF' (by decide), c3.keep hF' (by decide) (by decide) (fun c _ _ => by omega), c4.keep hF' (by decide) (by decide), c5.keep hF' (by decide) (by decide), c6.keep hF' (fun c _ _ => by omega), c7.cong (hF' _ (by decide)) (hF' _ (by decide)), by show KP M3 121 ((orK x.od (some (orF x.ye (pcN n) n (x.Rw w) [] (0, x.od.getD [])))).getD []); rw [ek]; exact hk, c9.cong (hF' _ (by decide)), c10.cong2 (hF' _ (by decide)) (hF' _ (by decide)) (hF' _ (by decide)), c11.cong (hF' _ (by decide)) (hF' _ (by decide))⟩
theorem K_turned (hU : MU Sh N tx) (hV : VI b x) (hb : b < 2 ^ 26) (hC : CI M x) (p q n z : Int32) : Con E mX11_turned 20 8 48 [.ref 0, .int p, .int q, .int n, .int z] Sh N G M (PR Sh N (CQ M (turnA x.ye x.wn x.Rw p q n z).2 (turnA x.ye x.wn x.Rw p q n z).1 x)) (CX1 (turnA x.ye x.wn x.Rw p q n z).1) := by
  obtain ⟨u0, u1, u2, u3, u4, u6, u10, u14, uw, u31, ui, u48, u51, u116, u117, u120, u121, u124, u125, u128⟩ := id hU
  have hw4 := hV.1
  have f0 : At Sh N 120 _ := u120
  refine Con.ofQ (by decide +kernel) (by simp [Value.category]) (Nat.le_of_ble_eq_true rfl) (fun k C0 Q hQ => ?_)
  have C : CK k E mX11_turned kdX11_turned 20 8 48 := ⟨C0, kdX11_turned_ok⟩
  refine r_aload_n C 0 rfl rfl rfl rfl ?_
  refine r_iload_n C 1 rfl rfl rfl ?_
  refine v1_x C rfl mfX11_wallAt lk_X11_197 (by assumption) (K_wallAt hU hV hC p) (by omega) (by omega) (fun X h => q_thr C hQ (Or.inl ⟨by rw [turnA, if_pos (Or.inl h.2)], h.1⟩)) ?_
  rintro y M1 ⟨rfl, w, hw, rfl, rfl⟩
  have hW := isW_nI (n := x.wn) (by omega) hw
  refine r_astore C rfl (by exact Nat.le_of_ble_eq_true rfl) rfl ?_
  refine r_aload_n C 0 rfl rfl rfl rfl ?_
  refine r_iload_n C 2 rfl rfl rfl ?_
  refine v1_x C rfl mfX11_wallAt lk_X11_197 (by assumption) (K_wallAt hU hV hC q) (by omega) (by omega) (fun X h => q_thr C hQ (Or.inl ⟨by rw [turnA, if_pos (Or.inr (Or.inl h.2))], h.1⟩)) ?_
  rintro y M2 ⟨rfl, v, hv, rfl, rfl⟩
  have hW2 := isW_nI (n := x.wn) (by omega) hv
  refine r_astore C rfl (by exact Nat.le_of_ble_eq_true rfl) rfl ?_
  refine r_iload C rfl rfl ?_
  refine r_ic (v := nI 1) C rfl (by decide) ?_
  refine s2_x C rfl mfX11_checkWhat lk_X11_322 (K_checkWhat z (nI 1)) (by omega) (by omega) (fun X h => q_thr C hQ (Or.inl ⟨by rw [turnA, if_pos (Or.inr (Or.inr (Or.inr h.2)))], h.1⟩)) ?_
  rintro y M3 ⟨rfl, rfl, h1⟩
  refine r_iload_n C 1 rfl rfl rfl ?_
  refine r_iload_n C 2 rfl rfl rfl ?_
  refine r_icmp_ne C 36 rfl (by decide) (fun hne => ?_) (fun he => ?_)
  rotate_left
  · exact r_nseW C hQ (Or.inl ⟨by rw [turnA, if_pos (Or.inr (Or.inr (Or.inl he)))], rfl⟩) (text := "both are one wall") (n := 29) (by decide +kernel) rfl rfl rfl rfl rfl
  have hn1 : ¬ (isW (nI w) x.wn = false ∨ isW (nI v) x.wn = false ∨ nI w = nI v ∨ inI z 0 (nI 1) = false) := by
    rintro (e | e | e | e)
    · rw [hW] at e; cases e
    · rw [hW2] at e; cases e
    · exact hne e
    · rw [h1] at e; cases e
  refine r_iload_n C 3 rfl rfl rfl ?_
  refine r_ic (v := nI 1) C rfl (by decide) ?_
  refine r_bi (v := nI 8) C rfl (by decide) ?_
  refine s3_x C rfl mfX11_checkRange lk_X11_292 (K_checkRange n (nI 1) (nI 8)) (by omega) (by omega) (fun X h => q_thr C hQ (Or.inr ⟨by rw [turnA, if_neg hn1, if_pos h.2], h.1⟩)) ?_
  rintro y M4 ⟨rfl, rfl, h2⟩
  obtain ⟨n, hn1', hn, rfl⟩ := (inI_iff (by decide) (by decide)).mp h2
  obtain ⟨m, -, hm, rfl⟩ := (inI_iff (a := 0) (by decide) (by decide)).mp h1
  have ea : turnA x.ye x.wn x.Rw (nI w) (nI v) (nI n) (nI m) = (0, if nI m = 0 then nI (tuF x.ye n 0 0 0 (x.Rw w) (x.Rw v) (0, 0)).1 - nI 1 else nI (tuF x.ye n 0 0 0 (x.Rw w) (x.Rw v) (0, 0)).2) := by rw [turnA, if_neg hn1, if_neg (by rw [h2]; decide), nI_clamp (by omega), nI_clamp (by omega), nI_clamp (by omega)]
  rw [ea] at hQ
  refine r_aload_n C 0 rfl rfl rfl rfl ?_
  refine r_getv C rfl f_X11_82 (by assumption) rfl ?_
  refine r_aload C rfl rfl rfl ?_
  refine r_aload C rfl rfl rfl ?_
  refine r_iload_n C 3 rfl rfl rfl ?_
  refine v3_g C rfl mfX7_search lk_X11_328 (by assumption) (u_search u120 u51 u48 (by omega) (by omega) (uw w (by omega)) (uw v (by omega)) (by omega) (by omega) hV.2.1 n rfl (by omega) (by omega) hC.2.2.2.2.1.2 (hV.ow hw) (hV.ow hv) (by omega) (hC.2.2.2.2.2.1 w (by omega)) (hC.2.2.2.2.2.1 v (by omega))) ?_
  rintro y M5 ⟨rfl, hF5, hb5⟩
  have hC5 : CI M5 x := hC.keep hF5 (fun c q => by simp only [SU]; simp only [TS] at q; omega)
  have lo5 : ∀ c, 131 ≤ c → M5 c = M4 c := fun c hc => hF5 c (by simp only [TS]; omega)
  refine r_iload C rfl rfl ?_
  have : m = 0 ∨ m = 1 := by omega
  rcases this with rfl | rfl
  · refine r_if_ne C 70 rfl (by decide) (fun h => absurd rfl h) (fun _ => ?_)
    refine r_aload_n C 0 rfl rfl rfl rfl ?_
    refine r_getv C rfl f_X11_82 (by assumption) rfl ?_
    refine r_geti C rfl f_X11_332 (by assumption) rfl ?_
    rw [hb5.1]
    refine r_goto C 77 rfl (by decide) ?_
    exact q_iret C hQ rfl rfl rfl ⟨rfl, rfl, rfl, rfl, hC5, lo5⟩
  · refine r_if_ne C 70 rfl (by decide) (fun _ => ?_) (fun h => absurd h (by decide))
    refine r_aload_n C 0 rfl rfl rfl rfl ?_
    refine r_getv C rfl f_X11_82 (by assumption) rfl ?_
    refine r_geti C rfl f_X11_335 (by assumption) rfl ?_
    rw [hb5.2]
    exact q_iret C hQ rfl rfl rfl ⟨rfl, rfl, rfl, rfl, hC5, lo5⟩
theorem K_work (hU : MU Sh N tx) (hV : VI b x) (hC : CI M x) (p q : Int32) : Con E mX11_work 20 8 48 [.ref 0, .int p, .int q] Sh N G M (PR Sh N (CQv M (workA x p q).1 (workA x p q).2)) (CX1 (workA x p q).1) := by
  have u0 := hU.1
  have hw4 := hV.1
  refine Con.ofQ (by decide +kernel) (by simp [Value.category]) (Nat.le_of_ble_eq_true rfl) (fun k C0 Q hQ => ?_)
  have C : CK k E mX11_work kdX11_work 20 8 48 := ⟨C0, kdX11_work_ok⟩
  refine r_aload_n C 0 rfl rfl rfl rfl ?_
  refine r_iload_n C 1 rfl rfl rfl ?_
  refine v1_x C rfl mfX11_wallAt lk_X11_197 (by assumption) (K_wallAt hU hV hC p) (by omega) (by omega) (fun X h => q_thr C hQ (Or.inl ⟨by rw [workA, if_pos (Or.inl h.2)], h.1⟩)) ?_
  rintro y M1 ⟨rfl, w, hw, rfl, rfl⟩
  have hA := hU.2.2.2.2.2.2.2.2.1 w (by omega)
  have a0 := hA.1
  have hW := isW_nI (n := x.wn) (by omega) hw
  refine r_astore_n C 3 rfl rfl (by exact Nat.le_of_ble_eq_true rfl) rfl ?_
  refine r_iload_n C 2 rfl rfl rfl ?_
  refine r_ic (v := nI 5) C rfl (by decide) ?_
  refine s2_x C rfl mfX11_checkWhat lk_X11_322 (K_checkWhat q (nI 5)) (by omega) (by omega) (fun X h => q_thr C hQ (Or.inl ⟨by rw [workA, if_pos (Or.inr h.2)], h.1⟩)) ?_
  rintro y M2 ⟨rfl, rfl, h1⟩
  obtain ⟨m, -, hm, rfl⟩ := (inI_iff (a := 0) (by decide) (by decide)).mp h1
  have ea : workA x (nI w) (nI m) = (0, x.row w (workR m (x.Rw w))) := by rw [workA, if_neg (by rintro (e | e); rw [hW] at e; cases e; rw [show inI (nI m) 0 (nI 5) = true from h1] at e; cases e), nI_clamp (by omega), nI_clamp (by omega)]
  rw [ea] at hQ
  refine r_aload_n C 3 rfl rfl rfl rfl ?_
  refine r_iload_n C 2 rfl rfl rfl ?_
  refine v1_g C rfl mfX8_improve lk_X11_347 (by assumption) (p_improve hA m rfl (by omega) (hV.ow hw) (hC.2.2.2.2.2.1 w (by omega))) ?_
  rintro z M3 ⟨rfl, a3, hF3⟩
  exact q_vret C hQ rfl rfl ⟨rfl, rfl, rfl, rfl, hC.row hF3 (by omega) (fun c q => Or.inr q) a3, fun c hc => hF3 c (by omega)⟩
theorem list_get {y : Option (List Nat)} {p : Int32} (h : isW p (y.getD []).length = true) (hl : (y.getD []).length < 100) : listA y p = (0, nI ((y.getD []).getD p.toNatClampNeg 0)) := by
  cases y with
  | none =>
    obtain ⟨w, hw, -⟩ := (isW_iff (by omega)).mp h
    exact absurd hw (Nat.not_lt_zero w)
  | some l =>
    have h : isW p l.length = true := h
    simp only [listA]
    rw [if_neg (by rw [h]; decide)]
    rfl
theorem list_no {y : Option (List Nat)} {p : Int32} (h : isW p (y.getD []).length = false) : listA y p = (1, 0) := by
  cases y with
  | none => rfl
  | some l =>
    have h : isW p l.length = false := h
    simp only [listA]
    rw [if_pos h]
theorem isW_y {p : Int32} {n : Nat} (hn : n < 2 ^ 30) (h1 : ¬ p < 0) (h2 : ¬ nI n ≤ p) : isW p n = true := by
  cases hz : isW p n with
  | true => rfl
  | false =>
    exfalso
    rcases (isW_no hn).mp hz with z | z
    · exact h1 (Int32.lt_iff_toInt_lt.mpr (by rw [show (0 : Int32).toInt = 0 from rfl]; exact z))
    · exact h2 (Int32.le_iff_toInt_le.mpr (by rw [nI_toInt (by omega)]; exact z))
theorem isW_n {p : Int32} {n : Nat} (hn : n < 2 ^ 30) (h2 : nI n ≤ p) : isW p n = false := by
  refine (isW_no hn).mpr (Or.inr ?_)
  have h3 := Int32.le_iff_toInt_le.mp h2
  rw [nI_toInt (by omega)] at h3
  exact h3
theorem K_planned (hU : MU Sh N tx) (hC : CI M x) (p : Int32) : Con E mX11_planned 20 8 48 [.ref 0, .int p] Sh N G M (PR Sh N (CQ M (listA x.pl p).2 (listA x.pl p).1 x)) (CX1 (listA x.pl p).1) := by
  obtain ⟨u0, u1, u2, u3, u4, u6, u10, u14, uw, u31, ui, u48, u51, u116, u117, u120, u121, u124, u125, u128⟩ := id hU
  obtain ⟨f0, f1, f2⟩ := id u117
  obtain ⟨k1, k2, k3⟩ := hC.2.2.2.2.2.2.1
  refine Con.ofQ (by decide +kernel) (by simp [Value.category]) (Nat.le_of_ble_eq_true rfl) (fun k C0 Q hQ => ?_)
  have C : CK k E mX11_planned kdX11_planned 20 8 48 := ⟨C0, kdX11_planned_ok⟩
  have no : isW p (x.pl.getD []).length = false → PT k E Q 8 48 Sh N G M 27 [some (.ref 0), some (.int p)] [] := fun h => r_nseW C hQ (Or.inl ⟨by rw [list_no h], rfl⟩) (text := "no such week of a plan") (n := 28) (by decide +kernel) rfl rfl rfl rfl rfl
  refine r_iload_n C 1 rfl rfl rfl ?_
  refine r_if_lt C 27 rfl (by decide) (fun h => no (inI_lo h)) (fun h => ?_)
  refine r_iload_n C 1 rfl rfl rfl ?_
  refine r_aload_n C 0 rfl rfl rfl rfl ?_
  refine r_getv C rfl f_X11_75 (by assumption) rfl ?_
  refine r_geti C rfl f_X11_314 (by assumption) rfl ?_
  rw [k2]
  refine r_icmp_ge C 27 rfl (by decide) (fun h2 => no (isW_n (by omega) h2)) (fun h2 => ?_)
  have hW := isW_y (by omega) h h2
  rw [list_get hW (by omega)] at hQ
  obtain ⟨i, hi, rfl⟩ := (isW_iff (by omega)).mp hW
  refine r_iload_n C 1 rfl rfl rfl ?_
  refine r_aload_n C 0 rfl rfl rfl rfl ?_
  refine r_getv C rfl f_X11_75 (by assumption) rfl ?_
  refine r_getv C rfl f_X11_317 (by assumption) rfl ?_
  refine r_alen C rfl f2 (by decide) ?_
  refine r_icmp_lt C 38 rfl (by decide) (fun _ => ?_) (fun z => absurd ((nI_ltI (by omega) (by decide)).mpr (by omega)) z)
  refine r_aload_n C 0 rfl rfl rfl rfl ?_
  refine r_getv C rfl f_X11_75 (by assumption) rfl ?_
  refine r_getv C rfl f_X11_317 (by assumption) rfl ?_
  refine r_iload_n C 1 rfl rfl rfl ?_
  refine r_iald C rfl (by assumption) (i) rfl (by omega) (by decide) ?_
  rw [k3 i hi]
  exact q_iret C hQ rfl rfl rfl ⟨rfl, rfl, rfl, by rw [nI_clamp (by omega)], hC, fun _ _ => rfl⟩
theorem K_ordered (hU : MU Sh N tx) (hC : CI M x) (p : Int32) : Con E mX11_ordered 20 8 48 [.ref 0, .int p] Sh N G M (PR Sh N (CQ M (listA x.od p).2 (listA x.od p).1 x)) (CX1 (listA x.od p).1) := by
  obtain ⟨u0, u1, u2, u3, u4, u6, u10, u14, uw, u31, ui, u48, u51, u116, u117, u120, u121, u124, u125, u128⟩ := id hU
  obtain ⟨f0, f1, f2⟩ := id u121
  obtain ⟨k1, k2, k3⟩ := hC.2.2.2.2.2.2.2.1
  refine Con.ofQ (by decide +kernel) (by simp [Value.category]) (Nat.le_of_ble_eq_true rfl) (fun k C0 Q hQ => ?_)
  have C : CK k E mX11_ordered kdX11_ordered 20 8 48 := ⟨C0, kdX11_ordered_ok⟩
  have no : isW p (x.od.getD []).length = false → PT k E Q 8 48 Sh N G M 27 [some (.ref 0), some (.int p)] [] := fun h => r_nseW C hQ (Or.inl ⟨by rw [list_no h], rfl⟩) (text := "no such work of an order") (n := 30) (by decide +kernel) rfl rfl rfl rfl rfl
  refine r_iload_n C 1 rfl rfl rfl ?_
  refine r_if_lt C 27 rfl (by decide) (fun h => no (inI_lo h)) (fun h => ?_)
  refine r_iload_n C 1 rfl rfl rfl ?_
  refine r_aload_n C 0 rfl rfl rfl rfl ?_
  refine r_getv C rfl f_X11_89 (by assumption) rfl ?_
  refine r_geti C rfl f_X11_353 (by assumption) rfl ?_
  rw [k2]
  refine r_icmp_ge C 27 rfl (by decide) (fun h2 => no (isW_n (by omega) h2)) (fun h2 => ?_)
  have hW := isW_y (by omega) h h2
  rw [list_get hW (by omega)] at hQ
  obtain ⟨i, hi, rfl⟩ := (isW_iff (by omega)).mp hW
  refine r_iload_n C 1 rfl rfl rfl ?_
  refine r_aload_n C 0 rfl rfl rfl rfl ?_
  refine r_getv C rfl f_X11_89 (by assumption) rfl ?_
  refine r_getv C rfl f_X11_354 (by assumption) rfl ?_
  refine r_alen C rfl f2 (by decide) ?_
  refine r_icmp_lt C 38 rfl (by decide) (fun _ => ?_) (fun z => absurd ((nI_ltI (by omega) (by decide)).mpr (by omega)) z)
  refine r_aload_n C 0 rfl rfl rfl rfl ?_
  refine r_getv C rfl f_X11_89 (by assumption) rfl ?_
  refine r_getv C rfl f_X11_354 (by assumption) rfl ?_
  refine r_iload_n C 1 rfl rfl rfl ?_
  refine r_iald C rfl (by assumption) (i) rfl (by omega) (by decide) ?_
  rw [k3 i hi]
  exact q_iret C hQ rfl rfl rfl ⟨rfl, rfl, rfl, by rw [nI_clamp (by omega)], hC, fun _ _ => rfl⟩
end CPUBC
