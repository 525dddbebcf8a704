section LWRAPB
variable {E : VE} {Sh : Nat → SE} {N : Nat} {G : Bool} {M M' : MM} {tx b : Nat} {x : ST}
theorem wall_cd (p : Int32) (q : Int32) : (wallA x p q).1 ≤ 1 := by
  unfold wallA
  repeat' split
  all_goals first | exact Nat.le_refl 1 | exact Nat.zero_le 1
theorem W_wall (hU : MU Sh N tx) (ho : At Sh N 153 (arE 3 1)) (hV : VI b x) (hC : CI M x) (p q : Int32) : ConH E mL_wall hL_wall 22 8 48 [.ref 0, .int p, .int q, .ref 153] Sh N false M (PR Sh N (LQw M (wallA x p q).2 (wallA x p q).1 x)) := by
  have u0 := hU.1
  have hcd := wall_cd (x := x) p q
  refine ConH.of (by decide +kernel) rfl (by simp [Value.category]) (Nat.le_of_ble_eq_true rfl) (fun k C0 hT Q hQ => ?_)
  have C : CK k E mL_wall kdL_wall 22 8 48 := ⟨C0, kdL_wall_ok⟩
  have o1 : (wallA x p q).1 = 1 → HD k E Q 0 0 Sh N M 13 [some (.ref 0), some (.int p), some (.int q), some (.ref 153), none] := fun e => by
    refine HD.w C rfl (show 4 < 5 by decide) ?_
    refine r_ic (v := nI 1) C rfl (by decide) ?_
    exact q_iret C hQ rfl rfl rfl ⟨rfl, rfl, by rw [e], hC, fun h => by omega, fun _ _ _ => rfl⟩
  refine r_aload_n C 3 rfl rfl rfl rfl ?_
  refine r_ic (v := nI 0) C rfl (by decide) ?_
  refine r_aload_n C 0 rfl rfl rfl rfl ?_
  refine r_iload_n C 1 rfl rfl rfl ?_
  refine r_iload_n C 2 rfl rfl rfl ?_
  refine v2_x C rfl mfX11_wall lk_L_20 (by assumption) (K_wall hU hV hC p q) (by omega) (by omega) (fun X h => h.elim (fun h => TH.caught (hpc := 13) (fun e f hpl hp hm cls hcl => by rw [hT]; exact sel_hit C hpl hm hcl (by rw [hp]; rfl) (by decide) (by rw [h.2]; exact wl_18) (by rw [h.2]; exact C.K.2.2.2.2.2.2.2.1.2.2.2.2)) (o1 h.1)) (fun h => absurd h.1 (by omega))) ?_
  rintro v M1 ⟨e0, rfl, hC1, hF1⟩
  refine r_i2l C rfl ?_
  refine r_last C rfl ho 0 rfl (by decide) (by decide) ?_
  refine r_goto C 17 rfl (by decide) ?_
  refine r_ic (v := nI 0) C rfl (by decide) ?_
  exact q_iret C hQ rfl rfl rfl ⟨rfl, rfl, by rw [e0], hC1.out _, fun _ => up_same _ _ _ _, fun c h1 h2 => by rw [up_row _ _ h2]; exact hF1 c h1⟩
theorem cell_cd (p : Int32) (q : Int32) (z : Int32) (y : Int32) : (cellA x p q z y).1 ≤ 1 := by
  unfold cellA
  repeat' split
  all_goals first | exact Nat.le_refl 1 | exact Nat.zero_le 1
theorem W_cell (hU : MU Sh N tx) (ho : At Sh N 153 (arE 3 1)) (hV : VI b x) (hC : CI M x) (p q z y : Int32) : ConH E mL_cell hL_cell 22 8 48 [.ref 0, .int p, .int q, .int z, .int y, .ref 153] Sh N false M (PR Sh N (LQw M (cellA x p q z y).2 (cellA x p q z y).1 x)) := by
  have u0 := hU.1
  have hcd := cell_cd (x := x) p q z y
  refine ConH.of (by decide +kernel) rfl (by simp [Value.category]) (Nat.le_of_ble_eq_true rfl) (fun k C0 hT Q hQ => ?_)
  have C : CK k E mL_cell kdL_cell 22 8 48 := ⟨C0, kdL_cell_ok⟩
  have o1 : (cellA x p q z y).1 = 1 → HD k E Q 0 0 Sh N M 17 [some (.ref 0), some (.int p), some (.int q), some (.int z), some (.int y), some (.ref 153), none] := fun e => by
    refine HD.w C rfl (show 6 < 7 by decide) ?_
    refine r_ic (v := nI 1) C rfl (by decide) ?_
    exact q_iret C hQ rfl rfl rfl ⟨rfl, rfl, by rw [e], hC, fun h => by omega, fun _ _ _ => rfl⟩
  refine r_aload C rfl rfl rfl ?_
  refine r_ic (v := nI 0) C rfl (by decide) ?_
  refine r_aload_n C 0 rfl rfl rfl rfl ?_
  refine r_iload_n C 1 rfl rfl rfl ?_
  refine r_iload_n C 2 rfl rfl rfl ?_
  refine r_iload_n C 3 rfl rfl rfl ?_
  refine r_iload C rfl rfl ?_
  refine v4_x C rfl mfX11_cell lk_L_24 (by assumption) (K_cell hU hV hC p q z y) (by omega) (by omega) (fun X h => h.elim (fun h => TH.caught (hpc := 17) (fun e f hpl hp hm cls hcl => by rw [hT]; exact sel_hit C hpl hm hcl (by rw [hp]; rfl) (by decide) (by rw [h.2]; exact wl_18) (by rw [h.2]; exact C.K.2.2.2.2.2.2.2.1.2.2.2.2)) (o1 h.1)) (fun h => absurd h.1 (by omega))) ?_
  rintro v M1 ⟨e0, rfl, hC1, hF1⟩
  refine r_i2l C rfl ?_
  refine r_last C rfl ho 0 rfl (by decide) (by decide) ?_
  refine r_goto C 21 rfl (by decide) ?_
  refine r_ic (v := nI 0) C rfl (by decide) ?_
  exact q_iret C hQ rfl rfl rfl ⟨rfl, rfl, by rw [e0], hC1.out _, fun _ => up_same _ _ _ _, fun c h1 h2 => by rw [up_row _ _ h2]; exact hF1 c h1⟩
theorem layer_cd (p : Int32) (q : Int32) (y : Int32) : (layerA x p q y).1 ≤ 1 := by
  unfold layerA
  repeat' split
  all_goals first | exact Nat.le_refl 1 | exact Nat.zero_le 1
theorem W_layer (hU : MU Sh N tx) (ho : At Sh N 153 (arE 3 1)) (hV : VI b x) (hC : CI M x) (p q y : Int32) : ConH E mL_layer hL_layer 22 8 48 [.ref 0, .int p, .int q, .int y, .ref 153] Sh N false M (PR Sh N (LQw M (layerA x p q y).2 (layerA x p q y).1 x)) := by
  have u0 := hU.1
  have hcd := layer_cd (x := x) p q y
  refine ConH.of (by decide +kernel) rfl (by simp [Value.category]) (Nat.le_of_ble_eq_true rfl) (fun k C0 hT Q hQ => ?_)
  have C : CK k E mL_layer kdL_layer 22 8 48 := ⟨C0, kdL_layer_ok⟩
  have o1 : (layerA x p q y).1 = 1 → HD k E Q 0 0 Sh N M 15 [some (.ref 0), some (.int p), some (.int q), some (.int y), some (.ref 153), none] := fun e => by
    refine HD.w C rfl (show 5 < 6 by decide) ?_
    refine r_ic (v := nI 1) C rfl (by decide) ?_
    exact q_iret C hQ rfl rfl rfl ⟨rfl, rfl, by rw [e], hC, fun h => by omega, fun _ _ _ => rfl⟩
  refine r_aload C rfl rfl rfl ?_
  refine r_ic (v := nI 0) C rfl (by decide) ?_
  refine r_aload_n C 0 rfl rfl rfl rfl ?_
  refine r_iload_n C 1 rfl rfl rfl ?_
  refine r_iload_n C 2 rfl rfl rfl ?_
  refine r_iload_n C 3 rfl rfl rfl ?_
  refine v3_x C rfl mfX11_layer lk_L_28 (by assumption) (K_layer hU hV hC p q y) (by omega) (by omega) (fun X h => h.elim (fun h => TH.caught (hpc := 15) (fun e f hpl hp hm cls hcl => by rw [hT]; exact sel_hit C hpl hm hcl (by rw [hp]; rfl) (by decide) (by rw [h.2]; exact wl_18) (by rw [h.2]; exact C.K.2.2.2.2.2.2.2.1.2.2.2.2)) (o1 h.1)) (fun h => absurd h.1 (by omega))) ?_
  rintro v M1 ⟨e0, rfl, hC1, hF1⟩
  refine r_i2l C rfl ?_
  refine r_last C rfl ho 0 rfl (by decide) (by decide) ?_
  refine r_goto C 19 rfl (by decide) ?_
  refine r_ic (v := nI 0) C rfl (by decide) ?_
  exact q_iret C hQ rfl rfl rfl ⟨rfl, rfl, by rw [e0], hC1.out _, fun _ => up_same _ _ _ _, fun c h1 h2 => by rw [up_row _ _ h2]; exact hF1 c h1⟩
theorem high_cd (p : Int32) : (highA x p).1 ≤ 1 := by
  unfold highA
  repeat' split
  all_goals first | exact Nat.le_refl 1 | exact Nat.zero_le 1
theorem W_high (hU : MU Sh N tx) (ho : At Sh N 153 (arE 3 1)) (hV : VI b x) (hC : CI M x) (p : Int32) : ConH E mL_high hL_high 22 8 48 [.ref 0, .int p, .ref 153] Sh N false M (PR Sh N (LQw M (highA x p).2 (highA x p).1 x)) := by
  have u0 := hU.1
  have hcd := high_cd (x := x) p
  refine ConH.of (by decide +kernel) rfl (by simp [Value.category]) (Nat.le_of_ble_eq_true rfl) (fun k C0 hT Q hQ => ?_)
  have C : CK k E mL_high kdL_high 22 8 48 := ⟨C0, kdL_high_ok⟩
  have o1 : (highA x p).1 = 1 → HD k E Q 0 0 Sh N M 12 [some (.ref 0), some (.int p), some (.ref 153), none] := fun e => by
    refine HD.n C 3 rfl rfl (show 3 < 4 by decide) ?_
    refine r_ic (v := nI 1) C rfl (by decide) ?_
    exact q_iret C hQ rfl rfl rfl ⟨rfl, rfl, by rw [e], hC, fun h => by omega, fun _ _ _ => rfl⟩
  refine r_aload_n C 2 rfl rfl rfl rfl ?_
  refine r_ic (v := nI 0) C rfl (by decide) ?_
  refine r_aload_n C 0 rfl rfl rfl rfl ?_
  refine r_iload_n C 1 rfl rfl rfl ?_
  refine v1_x C rfl mfX11_high lk_L_45 (by assumption) (K_high hU hV hC p) (by omega) (by omega) (fun X h => h.elim (fun h => TH.caught (hpc := 12) (fun e f hpl hp hm cls hcl => by rw [hT]; exact sel_hit C hpl hm hcl (by rw [hp]; rfl) (by decide) (by rw [h.2]; exact wl_18) (by rw [h.2]; exact C.K.2.2.2.2.2.2.2.1.2.2.2.2)) (o1 h.1)) (fun h => absurd h.1 (by omega))) ?_
  rintro v M1 ⟨e0, rfl, hC1, hF1⟩
  refine r_i2l C rfl ?_
  refine r_last C rfl ho 0 rfl (by decide) (by decide) ?_
  refine r_goto C 15 rfl (by decide) ?_
  refine r_ic (v := nI 0) C rfl (by decide) ?_
  exact q_iret C hQ rfl rfl rfl ⟨rfl, rfl, by rw [e0], hC1.out _, fun _ => up_same _ _ _ _, fun c h1 h2 => by rw [up_row _ _ h2]; exact hF1 c h1⟩
theorem planned_cd (p : Int32) : (listA x.pl p).1 ≤ 1 := by
  unfold listA
  repeat' split
  all_goals first | exact Nat.le_refl 1 | exact Nat.zero_le 1
theorem W_planned (hU : MU Sh N tx) (ho : At Sh N 153 (arE 3 1)) (hC : CI M x) (p : Int32) : ConH E mL_planned hL_planned 22 8 48 [.ref 0, .int p, .ref 153] Sh N false M (PR Sh N (LQw M (listA x.pl p).2 (listA x.pl p).1 x)) := by
  have u0 := hU.1
  have hcd := planned_cd (x := x) p
  refine ConH.of (by decide +kernel) rfl (by simp [Value.category]) (Nat.le_of_ble_eq_true rfl) (fun k C0 hT Q hQ => ?_)
  have C : CK k E mL_planned kdL_planned 22 8 48 := ⟨C0, kdL_planned_ok⟩
  have o1 : (listA x.pl p).1 = 1 → HD k E Q 0 0 Sh N M 12 [some (.ref 0), some (.int p), some (.ref 153), none] := fun e => by
    refine HD.n C 3 rfl rfl (show 3 < 4 by decide) ?_
    refine r_ic (v := nI 1) C rfl (by decide) ?_
    exact q_iret C hQ rfl rfl rfl ⟨rfl, rfl, by rw [e], hC, fun h => by omega, fun _ _ _ => rfl⟩
  refine r_aload_n C 2 rfl rfl rfl rfl ?_
  refine r_ic (v := nI 0) C rfl (by decide) ?_
  refine r_aload_n C 0 rfl rfl rfl rfl ?_
  refine r_iload_n C 1 rfl rfl rfl ?_
  refine v1_x C rfl mfX11_planned lk_L_54 (by assumption) (K_planned hU hC p) (by omega) (by omega) (fun X h => h.elim (fun h => TH.caught (hpc := 12) (fun e f hpl hp hm cls hcl => by rw [hT]; exact sel_hit C hpl hm hcl (by rw [hp]; rfl) (by decide) (by rw [h.2]; exact wl_18) (by rw [h.2]; exact C.K.2.2.2.2.2.2.2.1.2.2.2.2)) (o1 h.1)) (fun h => absurd h.1 (by omega))) ?_
  rintro v M1 ⟨e0, rfl, hC1, hF1⟩
  refine r_i2l C rfl ?_
  refine r_last C rfl ho 0 rfl (by decide) (by decide) ?_
  refine r_goto C 15 rfl (by decide) ?_
  refine r_ic (v := nI 0) C rfl (by decide) ?_
  exact q_iret C hQ rfl rfl rfl ⟨rfl, rfl, by rw [e0], hC1.out _, fun _ => up_same _ _ _ _, fun c h1 h2 => by rw [up_row _ _ h2]; exact hF1 c h1⟩
theorem ordered_cd (p : Int32) : (listA x.od p).1 ≤ 1 := by
  unfold listA
  repeat' split
  all_goals first | exact Nat.le_refl 1 | exact Nat.zero_le 1
theorem W_ordered (hU : MU Sh N tx) (ho : At Sh N 153 (arE 3 1)) (hC : CI M x) (p : Int32) : ConH E mL_ordered hL_ordered 22 8 48 [.ref 0, .int p, .ref 153] Sh N false M (PR Sh N (LQw M (listA x.od p).2 (listA x.od p).1 x)) := by
  have u0 := hU.1
  have hcd := ordered_cd (x := x) p
  refine ConH.of (by decide +kernel) rfl (by simp [Value.category]) (Nat.le_of_ble_eq_true rfl) (fun k C0 hT Q hQ => ?_)
  have C : CK k E mL_ordered kdL_ordered 22 8 48 := ⟨C0, kdL_ordered_ok⟩
  have o1 : (listA x.od p).1 = 1 → HD k E Q 0 0 Sh N M 12 [some (.ref 0), some (.int p), some (.ref 153), none] := fun e => by
    refine HD.n C 3 rfl rfl (show 3 < 4 by decide) ?_
    refine r_ic (v := nI 1) C rfl (by decide) ?_
    exact q_iret C hQ rfl rfl rfl ⟨rfl, rfl, by rw [e], hC, fun h => by omega, fun _ _ _ => rfl⟩
  refine r_aload_n C 2 rfl rfl rfl rfl ?_
  refine r_ic (v := nI 0) C rfl (by decide) ?_
  refine r_aload_n C 0 rfl rfl rfl rfl ?_
  refine r_iload_n C 1 rfl rfl rfl ?_
  refine v1_x C rfl mfX11_ordered lk_L_70 (by assumption) (K_ordered hU hC p) (by omega) (by omega) (fun X h => h.elim (fun h => TH.caught (hpc := 12) (fun e f hpl hp hm cls hcl => by rw [hT]; exact sel_hit C hpl hm hcl (by rw [hp]; rfl) (by decide) (by rw [h.2]; exact wl_18) (by rw [h.2]; exact C.K.2.2.2.2.2.2.2.1.2.2.2.2)) (o1 h.1)) (fun h => absurd h.1 (by omega))) ?_
  rintro v M1 ⟨e0, rfl, hC1, hF1⟩
  refine r_i2l C rfl ?_
  refine r_last C rfl ho 0 rfl (by decide) (by decide) ?_
  refine r_goto C 15 rfl (by decide) ?_
  refine r_ic (v := nI 0) C rfl (by decide) ?_
  exact q_iret C hQ rfl rfl rfl ⟨rfl, rfl, by rw [e0], hC1.out _, fun _ => up_same _ _ _ _, fun c h1 h2 => by rw [up_row _ _ h2]; exact hF1 c h1⟩
theorem mix_cd (z : Int32) : (mixA x.br z).1 ≤ 1 := by
  unfold mixA
  repeat' split
  all_goals first | exact Nat.le_refl 1 | exact Nat.zero_le 1
theorem W_mix (hU : MU Sh N tx) (ho : At Sh N 153 (arE 3 1)) (hV : VI b x) (hC : CI M x) (z : Int32) : ConH E mL_mix hL_mix 22 8 48 [.ref 0, .int z, .ref 153] Sh N false M (PR Sh N (LQw M (mixA x.br z).2 (mixA x.br z).1 x)) := by
  have u0 := hU.1
  have hcd := mix_cd (x := x) z
  refine ConH.of (by decide +kernel) rfl (by simp [Value.category]) (Nat.le_of_ble_eq_true rfl) (fun k C0 hT Q hQ => ?_)
  have C : CK k E mL_mix kdL_mix 22 8 48 := ⟨C0, kdL_mix_ok⟩
  have o1 : (mixA x.br z).1 = 1 → HD k E Q 0 0 Sh N M 12 [some (.ref 0), some (.int z), some (.ref 153), none] := fun e => by
    refine HD.n C 3 rfl rfl (show 3 < 4 by decide) ?_
    refine r_ic (v := nI 1) C rfl (by decide) ?_
    exact q_iret C hQ rfl rfl rfl ⟨rfl, rfl, by rw [e], hC, fun h => by omega, fun _ _ _ => rfl⟩
  refine r_aload_n C 2 rfl rfl rfl rfl ?_
  refine r_ic (v := nI 0) C rfl (by decide) ?_
  refine r_aload_n C 0 rfl rfl rfl rfl ?_
  refine r_iload_n C 1 rfl rfl rfl ?_
  refine v1_x C rfl mfX11_mix lk_L_73 (by assumption) (K_mix hU hV hC z) (by omega) (by omega) (fun X h => h.elim (fun h => TH.caught (hpc := 12) (fun e f hpl hp hm cls hcl => by rw [hT]; exact sel_hit C hpl hm hcl (by rw [hp]; rfl) (by decide) (by rw [h.2]; exact wl_18) (by rw [h.2]; exact C.K.2.2.2.2.2.2.2.1.2.2.2.2)) (o1 h.1)) (fun h => absurd h.1 (by omega))) ?_
  rintro v M1 ⟨e0, rfl, hC1, hF1⟩
  refine r_i2l C rfl ?_
  refine r_last C rfl ho 0 rfl (by decide) (by decide) ?_
  refine r_goto C 15 rfl (by decide) ?_
  refine r_ic (v := nI 0) C rfl (by decide) ?_
  exact q_iret C hQ rfl rfl rfl ⟨rfl, rfl, by rw [e0], hC1.out _, fun _ => up_same _ _ _ _, fun c h1 h2 => by rw [up_row _ _ h2]; exact hF1 c h1⟩
theorem credit_cd (p : Int32) : (creditA x p).1 ≤ 1 := by
  unfold creditA
  repeat' split
  all_goals first | exact Nat.le_refl 1 | exact Nat.zero_le 1
theorem W_credit (hU : MU Sh N tx) (ho : At Sh N 153 (arE 3 1)) (hC : CI M x) (p : Int32) : ConH E mL_credit hL_credit 22 8 48 [.ref 0, .int p, .ref 153] Sh N false M (PR Sh N (LQw M (creditA x p).2 (creditA x p).1 x)) := by
  have u0 := hU.1
  have hcd := credit_cd (x := x) p
  refine ConH.of (by decide +kernel) rfl (by simp [Value.category]) (Nat.le_of_ble_eq_true rfl) (fun k C0 hT Q hQ => ?_)
  have C : CK k E mL_credit kdL_credit 22 8 48 := ⟨C0, kdL_credit_ok⟩
  have o1 : (creditA x p).1 = 1 → HD k E Q 0 0 Sh N M 12 [some (.ref 0), some (.int p), some (.ref 153), none] := fun e => by
    refine HD.n C 3 rfl rfl (show 3 < 4 by decide) ?_
    refine r_ic (v := nI 1) C rfl (by decide) ?_
    exact q_iret C hQ rfl rfl rfl ⟨rfl, rfl, by rw [e], hC, fun h => by omega, fun _ _ _ => rfl⟩
  refine r_aload_n C 2 rfl rfl rfl rfl ?_
  refine r_ic (v := nI 0) C rfl (by decide) ?_
  refine r_aload_n C 0 rfl rfl rfl rfl ?_
  refine r_iload_n C 1 rfl rfl rfl ?_
  refine v1_x C rfl mfX11_credit lk_L_85 (by assumption) (K_credit hU hC p) (by omega) (by omega) (fun X h => h.elim (fun h => TH.caught (hpc := 12) (fun e f hpl hp hm cls hcl => by rw [hT]; exact sel_hit C hpl hm hcl (by rw [hp]; rfl) (by decide) (by rw [h.2]; exact wl_18) (by rw [h.2]; exact C.K.2.2.2.2.2.2.2.1.2.2.2.2)) (o1 h.1)) (fun h => absurd h.1 (by omega))) ?_
  rintro v M1 ⟨e0, rfl, hC1, hF1⟩
  refine r_i2l C rfl ?_
  refine r_last C rfl ho 0 rfl (by decide) (by decide) ?_
  refine r_goto C 15 rfl (by decide) ?_
  refine r_ic (v := nI 0) C rfl (by decide) ?_
  exact q_iret C hQ rfl rfl rfl ⟨rfl, rfl, by rw [e0], hC1.out _, fun _ => up_same _ _ _ _, fun c h1 h2 => by rw [up_row _ _ h2]; exact hF1 c h1⟩
theorem W_when (hU : MU Sh N tx) (ho : At Sh N 153 (arE 3 1)) (hV : VI b x) (hb : b < 2 ^ 26) (hC : CI M x) (p q : Int32) : ConH E mL_when hL_when 22 8 48 [.ref 0, .int p, .int q, .ref 153] Sh N false M (PR Sh N (LQw M (whenA x.ye x.wn x.Rw p q).2 (whenA x.ye x.wn x.Rw p q).1 x)) := by
  have u0 := hU.1
  refine ConH.of (by decide +kernel) rfl (by simp [Value.category]) (Nat.le_of_ble_eq_true rfl) (fun k C0 hT Q hQ => ?_)
  have C : CK k E mL_when kdL_when 22 8 48 := ⟨C0, kdL_when_ok⟩
  have o1 : (whenA x.ye x.wn x.Rw p q).1 = 1 → HD k E Q 0 0 Sh N M 13 [some (.ref 0), some (.int p), some (.int q), some (.ref 153), none] := fun e => by
    refine HD.w C rfl (show 4 < 5 by decide) ?_
    refine r_ic (v := nI 1) C rfl (by decide) ?_
    exact q_iret C hQ rfl rfl rfl ⟨rfl, rfl, by rw [e], hC, fun h => by omega, fun _ _ _ => rfl⟩
  have o2 : (whenA x.ye x.wn x.Rw p q).1 = 2 → HD k E Q 0 0 Sh N M 17 [some (.ref 0), some (.int p), some (.int q), some (.ref 153), none] := fun e => by
    refine HD.w C rfl (show 4 < 5 by decide) ?_
    refine r_ic (v := nI 2) C rfl (by decide) ?_
    exact q_iret C hQ rfl rfl rfl ⟨rfl, rfl, by rw [e], hC, fun h => by omega, fun _ _ _ => rfl⟩
  refine r_aload_n C 3 rfl rfl rfl rfl ?_
  refine r_ic (v := nI 0) C rfl (by decide) ?_
  refine r_aload_n C 0 rfl rfl rfl rfl ?_
  refine r_iload_n C 1 rfl rfl rfl ?_
  refine r_iload_n C 2 rfl rfl rfl ?_
  refine v2_x C rfl mfX11_when lk_L_48 (by assumption) (K_when hU hV hb hC p q) (by omega) (by omega) (fun X h => h.elim (fun h => TH.caught (hpc := 13) (fun e f hpl hp hm cls hcl => by rw [hT]; exact sel_hit C hpl hm hcl (by rw [hp]; rfl) (by decide) (by rw [h.2]; exact wl_18) (by rw [h.2]; exact C.K.2.2.2.2.2.2.2.1.2.2.2.2)) (o1 h.1)) (fun h => TH.caught (hpc := 17) (fun e f hpl hp hm cls hcl => by rw [hT]; exact sel_miss C hpl hm hcl (by rw [hp]; rfl) (by decide) wl_18 (by rw [h.2]; exact C.K.2.2.2.2.2.2.2.1.1) (sel_hit C hpl hm hcl (by rw [hp]; rfl) (by decide) (by rw [h.2]; exact wl_13) (by rw [h.2]; exact C.K.2.2.2.2.2.2.2.1.2.2.2.1))) (o2 h.1))) ?_
  rintro v M1 ⟨e0, rfl, hC1, hF1⟩
  refine r_i2l C rfl ?_
  refine r_last C rfl ho 0 rfl (by decide) (by decide) ?_
  refine r_goto C 21 rfl (by decide) ?_
  refine r_ic (v := nI 0) C rfl (by decide) ?_
  exact q_iret C hQ rfl rfl rfl ⟨rfl, rfl, by rw [e0], hC1.out _, fun _ => up_same _ _ _ _, fun c h1 h2 => by rw [up_row _ _ h2]; exact hF1 c h1⟩
theorem W_turned (hU : MU Sh N tx) (ho : At Sh N 153 (arE 3 1)) (hV : VI b x) (hb : b < 2 ^ 26) (hC : CI M x) (p q n z : Int32) : ConH E mL_turned hL_turned 22 8 48 [.ref 0, .int p, .int q, .int n, .int z, .ref 153] Sh N false M (PR Sh N (LQw M (turnA x.ye x.wn x.Rw p q n z).2 (turnA x.ye x.wn x.Rw p q n z).1 x)) := by
  have u0 := hU.1
  refine ConH.of (by decide +kernel) rfl (by simp [Value.category]) (Nat.le_of_ble_eq_true rfl) (fun k C0 hT Q hQ => ?_)
  have C : CK k E mL_turned kdL_turned 22 8 48 := ⟨C0, kdL_turned_ok⟩
  have o1 : (turnA x.ye x.wn x.Rw p q n z).1 = 1 → HD k E Q 0 0 Sh N M 17 [some (.ref 0), some (.int p), some (.int q), some (.int n), some (.int z), some (.ref 153), none] := fun e => by
    refine HD.w C rfl (show 6 < 7 by decide) ?_
    refine r_ic (v := nI 1) C rfl (by decide) ?_
    exact q_iret C hQ rfl rfl rfl ⟨rfl, rfl, by rw [e], hC, fun h => by omega, fun _ _ _ => rfl⟩
  have o2 : (turnA x.ye x.wn x.Rw p q n z).1 = 2 → HD k E Q 0 0 Sh N M 21 [some (.ref 0), some (.int p), some (.int q), some (.int n), some (.int z), some (.ref 153), none] := fun e => by
    refine HD.w C rfl (show 6 < 7 by decide) ?_
    refine r_ic (v := nI 2) C rfl (by decide) ?_
    exact q_iret C hQ rfl rfl rfl ⟨rfl, rfl, by rw [e], hC, fun h => by omega, fun _ _ _ => rfl⟩
  refine r_aload C rfl rfl rfl ?_
  refine r_ic (v := nI 0) C rfl (by decide) ?_
  refine r_aload_n C 0 rfl rfl rfl rfl ?_
  refine r_iload_n C 1 rfl rfl rfl ?_
  refine r_iload_n C 2 rfl rfl rfl ?_
  refine r_iload_n C 3 rfl rfl rfl ?_
  refine r_iload C rfl rfl ?_
  refine v4_x C rfl mfX11_turned lk_L_57 (by assumption) (K_turned hU hV hb hC p q n z) (by omega) (by omega) (fun X h => h.elim (fun h => TH.caught (hpc := 17) (fun e f hpl hp hm cls hcl => by rw [hT]; exact sel_hit C hpl hm hcl (by rw [hp]; rfl) (by decide) (by rw [h.2]; exact wl_18) (by rw [h.2]; exact C.K.2.2.2.2.2.2.2.1.2.2.2.2)) (o1 h.1)) (fun h => TH.caught (hpc := 21) (fun e f hpl hp hm cls hcl => by rw [hT]; exact sel_miss C hpl hm hcl (by rw [hp]; rfl) (by decide) wl_18 (by rw [h.2]; exact C.K.2.2.2.2.2.2.2.1.1) (sel_hit C hpl hm hcl (by rw [hp]; rfl) (by decide) (by rw [h.2]; exact wl_13) (by rw [h.2]; exact C.K.2.2.2.2.2.2.2.1.2.2.2.1))) (o2 h.1))) ?_
  rintro v M1 ⟨e0, rfl, hC1, hF1⟩
  refine r_i2l C rfl ?_
  refine r_last C rfl ho 0 rfl (by decide) (by decide) ?_
  refine r_goto C 25 rfl (by decide) ?_
  refine r_ic (v := nI 0) C rfl (by decide) ?_
  exact q_iret C hQ rfl rfl rfl ⟨rfl, rfl, by rw [e0], hC1.out _, fun _ => up_same _ _ _ _, fun c h1 h2 => by rw [up_row _ _ h2]; exact hF1 c h1⟩
theorem W_line (hU : MU Sh N tx) (ho : At Sh N 153 (arE 3 1)) (hV : VI b x) (hb : b < 2 ^ 26) (hC : CI M x) (p q z : Int32) : ConH E mL_line hL_line 22 8 48 [.ref 0, .int p, .int q, .int z, .ref 153] Sh N false M (PR Sh N (LQw M (lineA x.ye x.wn x.Rw p q z).2 (lineA x.ye x.wn x.Rw p q z).1 x)) := by
  have u0 := hU.1
  refine ConH.of (by decide +kernel) rfl (by simp [Value.category]) (Nat.le_of_ble_eq_true rfl) (fun k C0 hT Q hQ => ?_)
  have C : CK k E mL_line kdL_line 22 8 48 := ⟨C0, kdL_line_ok⟩
  have o1 : (lineA x.ye x.wn x.Rw p q z).1 = 1 → HD k E Q 0 0 Sh N M 15 [some (.ref 0), some (.int p), some (.int q), some (.int z), some (.ref 153), none] := fun e => by
    refine HD.w C rfl (show 5 < 6 by decide) ?_
    refine r_ic (v := nI 1) C rfl (by decide) ?_
    exact q_iret C hQ rfl rfl rfl ⟨rfl, rfl, by rw [e], hC, fun h => by omega, fun _ _ _ => rfl⟩
  have o2 : (lineA x.ye x.wn x.Rw p q z).1 = 2 → HD k E Q 0 0 Sh N M 19 [some (.ref 0), some (.int p), some (.int q), some (.int z), some (.ref 153), none] := fun e => by
    refine HD.w C rfl (show 5 < 6 by decide) ?_
    refine r_ic (v := nI 2) C rfl (by decide) ?_
    exact q_iret C hQ rfl rfl rfl ⟨rfl, rfl, by rw [e], hC, fun h => by omega, fun _ _ _ => rfl⟩
  refine r_aload C rfl rfl rfl ?_
  refine r_ic (v := nI 0) C rfl (by decide) ?_
  refine r_aload_n C 0 rfl rfl rfl rfl ?_
  refine r_iload_n C 1 rfl rfl rfl ?_
  refine r_iload_n C 2 rfl rfl rfl ?_
  refine r_iload_n C 3 rfl rfl rfl ?_
  refine v3_x C rfl mfX11_line lk_L_60 (by assumption) (K_line hU hV hb hC p q z) (by omega) (by omega) (fun X h => h.elim (fun h => TH.caught (hpc := 15) (fun e f hpl hp hm cls hcl => by rw [hT]; exact sel_hit C hpl hm hcl (by rw [hp]; rfl) (by decide) (by rw [h.2]; exact wl_18) (by rw [h.2]; exact C.K.2.2.2.2.2.2.2.1.2.2.2.2)) (o1 h.1)) (fun h => TH.caught (hpc := 19) (fun e f hpl hp hm cls hcl => by rw [hT]; exact sel_miss C hpl hm hcl (by rw [hp]; rfl) (by decide) wl_18 (by rw [h.2]; exact C.K.2.2.2.2.2.2.2.1.1) (sel_hit C hpl hm hcl (by rw [hp]; rfl) (by decide) (by rw [h.2]; exact wl_13) (by rw [h.2]; exact C.K.2.2.2.2.2.2.2.1.2.2.2.1))) (o2 h.1))) ?_
  rintro v M1 ⟨e0, rfl, hC1, hF1⟩
  refine r_i2l C rfl ?_
  refine r_last C rfl ho 0 rfl (by decide) (by decide) ?_
  refine r_goto C 23 rfl (by decide) ?_
  refine r_ic (v := nI 0) C rfl (by decide) ?_
  exact q_iret C hQ rfl rfl rfl ⟨rfl, rfl, by rw [e0], hC1.out _, fun _ => up_same _ _ _ _, fun c h1 h2 => by rw [up_row _ _ h2]; exact hF1 c h1⟩
theorem W_first (hU : MU Sh N tx) (ho : At Sh N 153 (arE 3 1)) (hV : VI b x) (hC : CI M x) (coin z : Int32) : ConH E mL_first hL_first 22 8 48 [.ref 0, .int coin, .int z, .ref 153] Sh N false M (PR Sh N (LQw M (firstA x coin z).2 (firstA x coin z).1 x)) := by
  have u0 := hU.1
  refine ConH.of (by decide +kernel) rfl (by simp [Value.category]) (Nat.le_of_ble_eq_true rfl) (fun k C0 hT Q hQ => ?_)
  have C : CK k E mL_first kdL_first 22 8 48 := ⟨C0, kdL_first_ok⟩
  have o1 : (firstA x coin z).1 = 1 → HD k E Q 0 0 Sh N M 13 [some (.ref 0), some (.int coin), some (.int z), some (.ref 153), none] := fun e => by
    refine HD.w C rfl (show 4 < 5 by decide) ?_
    refine r_ic (v := nI 1) C rfl (by decide) ?_
    exact q_iret C hQ rfl rfl rfl ⟨rfl, rfl, by rw [e], hC, fun h => by omega, fun _ _ _ => rfl⟩
  have o2 : (firstA x coin z).1 = 2 → HD k E Q 0 0 Sh N M 17 [some (.ref 0), some (.int coin), some (.int z), some (.ref 153), none] := fun e => by
    refine HD.w C rfl (show 4 < 5 by decide) ?_
    refine r_ic (v := nI 2) C rfl (by decide) ?_
    exact q_iret C hQ rfl rfl rfl ⟨rfl, rfl, by rw [e], hC, fun h => by omega, fun _ _ _ => rfl⟩
  refine r_aload_n C 3 rfl rfl rfl rfl ?_
  refine r_ic (v := nI 0) C rfl (by decide) ?_
  refine r_aload_n C 0 rfl rfl rfl rfl ?_
  refine r_iload_n C 1 rfl rfl rfl ?_
  refine r_iload_n C 2 rfl rfl rfl ?_
  refine v2_x C rfl mfX11_first lk_L_76 (by assumption) (K_first hU hV hC coin z) (by omega) (by omega) (fun X h => h.elim (fun h => TH.caught (hpc := 13) (fun e f hpl hp hm cls hcl => by rw [hT]; exact sel_hit C hpl hm hcl (by rw [hp]; rfl) (by decide) (by rw [h.2]; exact wl_18) (by rw [h.2]; exact C.K.2.2.2.2.2.2.2.1.2.2.2.2)) (o1 h.1)) (fun h => TH.caught (hpc := 17) (fun e f hpl hp hm cls hcl => by rw [hT]; exact sel_miss C hpl hm hcl (by rw [hp]; rfl) (by decide) wl_18 (by rw [h.2]; exact C.K.2.2.2.2.2.2.2.1.1) (sel_hit C hpl hm hcl (by rw [hp]; rfl) (by decide) (by rw [h.2]; exact wl_13) (by rw [h.2]; exact C.K.2.2.2.2.2.2.2.1.2.2.2.1))) (o2 h.1))) ?_
  rintro v M1 ⟨e0, rfl, hC1, hF1⟩
  refine r_i2l C rfl ?_
  refine r_last C rfl ho 0 rfl (by decide) (by decide) ?_
  refine r_goto C 21 rfl (by decide) ?_
  refine r_ic (v := nI 0) C rfl (by decide) ?_
  exact q_iret C hQ rfl rfl rfl ⟨rfl, rfl, by rw [e0], hC1.out _, fun _ => up_same _ _ _ _, fun c h1 h2 => by rw [up_row _ _ h2]; exact hF1 c h1⟩
end LWRAPB
