section LWRAPC
variable {E : VE} {Sh : Nat → SE} {N : Nat} {G : Bool} {M M' : MM} {tx b : Nat} {x : ST}
/-- .. of one that answers nothing -/
abbrev LQv (M : MM) (cd : Nat) (x' : ST) : Option Value → MM → Prop := fun r M' => r = some (.int (nI cd)) ∧ CI M' x' ∧ ∀ c, 131 ≤ c → M' c = M c
theorem lift_cd (p q : Int32) : (liftA x p q).1 ≤ 1 := by
  unfold liftA
  repeat' split
  all_goals first | exact Nat.le_refl 1 | exact Nat.zero_le 1
theorem lift_x (p q : Int32) : (liftA x p q).1 ≠ 0 → (liftA x p q).2.2 = x := by
  unfold liftA
  repeat' split
  all_goals first | exact fun _ => rfl | exact fun h => absurd rfl h
theorem W_lift (hU : MU Sh N tx) (ho : At Sh N 153 (arE 3 1)) (hV : VI b x) (hC : CI M x) (p q : Int32) : ConH E mL_lift hL_lift 22 8 48 [.ref 0, .int p, .int q, .ref 153] Sh N false M (PR Sh N (LQw M (liftA x p q).2.1 (liftA x p q).1 (liftA x p q).2.2)) := by
  have u0 := hU.1
  have hcd := lift_cd (x := x) p q
  refine ConH.of (by decide +kernel) rfl (by simp [Value.category]) (Nat.le_of_ble_eq_true rfl) (fun k C0 hT Q hQ => ?_)
  have C : CK k E mL_lift kdL_lift 22 8 48 := ⟨C0, kdL_lift_ok⟩
  have o1 : (liftA x p q).1 = 1 → HD k E Q 0 0 Sh N M 13 [some (.ref 0), some (.int p), some (.int q), some (.ref 153), none] := fun e => by
    have ex := lift_x (x := x) p q (by rw [e]; decide)
    refine HD.w C rfl (show 4 < 5 by decide) ?_
    refine r_ic (v := nI 1) C rfl (by decide) ?_
    exact q_iret C hQ rfl rfl rfl ⟨rfl, rfl, by rw [e], by rw [ex]; exact hC, fun h => by omega, fun _ _ _ => rfl⟩
  refine r_aload_n C 3 rfl rfl rfl rfl ?_
  refine r_ic (v := nI 0) C rfl (by decide) ?_
  refine r_aload_n C 0 rfl rfl rfl rfl ?_
  refine r_iload_n C 1 rfl rfl rfl ?_
  refine r_iload_n C 2 rfl rfl rfl ?_
  refine v2_x C rfl mfX11_lift lk_L_32 (by assumption) (K_lift hU hV hC p q) (by omega) (by omega) (fun X h => h.elim (fun h => TH.caught (hpc := 13) (fun e f hpl hp hm cls hcl => by rw [hT]; exact sel_hit C hpl hm hcl (by rw [hp]; rfl) (by decide) (by rw [h.2]; exact wl_18) (by rw [h.2]; exact C.K.2.2.2.2.2.2.2.1.2.2.2.2)) (o1 h.1)) (fun h => absurd h.1 (by omega))) ?_
  rintro v M1 ⟨e0, rfl, hC1, hF1⟩
  refine r_i2l C rfl ?_
  refine r_last C rfl ho 0 rfl (by decide) (by decide) ?_
  refine r_goto C 17 rfl (by decide) ?_
  refine r_ic (v := nI 0) C rfl (by decide) ?_
  exact q_iret C hQ rfl rfl rfl ⟨rfl, rfl, by rw [e0], hC1.out _, fun _ => up_same _ _ _ _, fun c h1 h2 => by rw [up_row _ _ h2]; exact hF1 c h1⟩
theorem down_cd (p : Int32) : (downA x p).1 ≤ 1 := by
  unfold downA
  repeat' split
  all_goals first | exact Nat.le_refl 1 | exact Nat.zero_le 1
theorem down_x (p : Int32) : (downA x p).1 ≠ 0 → (downA x p).2.2 = x := by
  unfold downA
  repeat' split
  all_goals first | exact fun _ => rfl | exact fun h => absurd rfl h
theorem W_down (hU : MU Sh N tx) (ho : At Sh N 153 (arE 3 1)) (hV : VI b x) (hC : CI M x) (p : Int32) : ConH E mL_down hL_down 22 8 48 [.ref 0, .int p, .ref 153] Sh N false M (PR Sh N (LQw M (downA x p).2.1 (downA x p).1 (downA x p).2.2)) := by
  have u0 := hU.1
  have hcd := down_cd (x := x) p
  refine ConH.of (by decide +kernel) rfl (by simp [Value.category]) (Nat.le_of_ble_eq_true rfl) (fun k C0 hT Q hQ => ?_)
  have C : CK k E mL_down kdL_down 22 8 48 := ⟨C0, kdL_down_ok⟩
  have o1 : (downA x p).1 = 1 → HD k E Q 0 0 Sh N M 12 [some (.ref 0), some (.int p), some (.ref 153), none] := fun e => by
    have ex := down_x (x := x) p (by rw [e]; decide)
    refine HD.n C 3 rfl rfl (show 3 < 4 by decide) ?_
    refine r_ic (v := nI 1) C rfl (by decide) ?_
    exact q_iret C hQ rfl rfl rfl ⟨rfl, rfl, by rw [e], by rw [ex]; exact hC, fun h => by omega, fun _ _ _ => rfl⟩
  refine r_aload_n C 2 rfl rfl rfl rfl ?_
  refine r_ic (v := nI 0) C rfl (by decide) ?_
  refine r_aload_n C 0 rfl rfl rfl rfl ?_
  refine r_iload_n C 1 rfl rfl rfl ?_
  refine v1_x C rfl mfX11_down lk_L_35 (by assumption) (K_down hU hV hC p) (by omega) (by omega) (fun X h => h.elim (fun h => TH.caught (hpc := 12) (fun e f hpl hp hm cls hcl => by rw [hT]; exact sel_hit C hpl hm hcl (by rw [hp]; rfl) (by decide) (by rw [h.2]; exact wl_18) (by rw [h.2]; exact C.K.2.2.2.2.2.2.2.1.2.2.2.2)) (o1 h.1)) (fun h => absurd h.1 (by omega))) ?_
  rintro v M1 ⟨e0, rfl, hC1, hF1⟩
  refine r_i2l C rfl ?_
  refine r_last C rfl ho 0 rfl (by decide) (by decide) ?_
  refine r_goto C 15 rfl (by decide) ?_
  refine r_ic (v := nI 0) C rfl (by decide) ?_
  exact q_iret C hQ rfl rfl rfl ⟨rfl, rfl, by rw [e0], hC1.out _, fun _ => up_same _ _ _ _, fun c h1 h2 => by rw [up_row _ _ h2]; exact hF1 c h1⟩
theorem weeks_x (p q : Int32) : (weeksA x p q).1 ≠ 0 → (weeksA x p q).2.2 = x := by
  unfold weeksA
  repeat' split
  all_goals first | exact fun _ => rfl | exact fun h => absurd rfl h
theorem W_weeks (hU : MU Sh N tx) (ho : At Sh N 153 (arE 3 1)) (hV : VI b x) (hb : b < 2 ^ 26) (hC : CI M x) (p q : Int32) : ConH E mL_weeks hL_weeks 22 8 48 [.ref 0, .int p, .int q, .ref 153] Sh N false M (PR Sh N (LQw M (weeksA x p q).2.1 (weeksA x p q).1 (weeksA x p q).2.2)) := by
  have u0 := hU.1
  refine ConH.of (by decide +kernel) rfl (by simp [Value.category]) (Nat.le_of_ble_eq_true rfl) (fun k C0 hT Q hQ => ?_)
  have C : CK k E mL_weeks kdL_weeks 22 8 48 := ⟨C0, kdL_weeks_ok⟩
  have o1 : (weeksA x p q).1 = 1 → HD k E Q 0 0 Sh N M 13 [some (.ref 0), some (.int p), some (.int q), some (.ref 153), none] := fun e => by
    have ex := weeks_x (x := x) p q (by rw [e]; decide)
    refine HD.w C rfl (show 4 < 5 by decide) ?_
    refine r_ic (v := nI 1) C rfl (by decide) ?_
    exact q_iret C hQ rfl rfl rfl ⟨rfl, rfl, by rw [e], by rw [ex]; exact hC, fun h => by omega, fun _ _ _ => rfl⟩
  have o2 : (weeksA x p q).1 = 2 → HD k E Q 0 0 Sh N M 17 [some (.ref 0), some (.int p), some (.int q), some (.ref 153), none] := fun e => by
    have ex := weeks_x (x := x) p q (by rw [e]; decide)
    refine HD.w C rfl (show 4 < 5 by decide) ?_
    refine r_ic (v := nI 2) C rfl (by decide) ?_
    exact q_iret C hQ rfl rfl rfl ⟨rfl, rfl, by rw [e], by rw [ex]; exact hC, fun h => by omega, fun _ _ _ => rfl⟩
  refine r_aload_n C 3 rfl rfl rfl rfl ?_
  refine r_ic (v := nI 0) C rfl (by decide) ?_
  refine r_aload_n C 0 rfl rfl rfl rfl ?_
  refine r_iload_n C 1 rfl rfl rfl ?_
  refine r_iload_n C 2 rfl rfl rfl ?_
  refine v2_x C rfl mfX11_weeks lk_L_42 (by assumption) (K_weeks hU hV hb hC p q) (by omega) (by omega) (fun X h => h.elim (fun h => TH.caught (hpc := 13) (fun e f hpl hp hm cls hcl => by rw [hT]; exact sel_hit C hpl hm hcl (by rw [hp]; rfl) (by decide) (by rw [h.2]; exact wl_18) (by rw [h.2]; exact C.K.2.2.2.2.2.2.2.1.2.2.2.2)) (o1 h.1)) (fun h => TH.caught (hpc := 17) (fun e f hpl hp hm cls hcl => by rw [hT]; exact sel_miss C hpl hm hcl (by rw [hp]; rfl) (by decide) wl_18 (by rw [h.2]; exact C.K.2.2.2.2.2.2.2.1.1) (sel_hit C hpl hm hcl (by rw [hp]; rfl) (by decide) (by rw [h.2]; exact wl_13) (by rw [h.2]; exact C.K.2.2.2.2.2.2.2.1.2.2.2.1))) (o2 h.1))) ?_
  rintro v M1 ⟨e0, rfl, hC1, hF1⟩
  refine r_i2l C rfl ?_
  refine r_last C rfl ho 0 rfl (by decide) (by decide) ?_
  refine r_goto C 21 rfl (by decide) ?_
  refine r_ic (v := nI 0) C rfl (by decide) ?_
  exact q_iret C hQ rfl rfl rfl ⟨rfl, rfl, by rw [e0], hC1.out _, fun _ => up_same _ _ _ _, fun c h1 h2 => by rw [up_row _ _ h2]; exact hF1 c h1⟩
theorem plan_x (p q : Int32) : (planA x.ye x.wn x.Rw p q).1 ≠ 0 → (x.setPl (planK x.pl (planA x.ye x.wn x.Rw p q).2)) = x := by
  unfold planA
  repeat' split
  all_goals first | exact fun _ => rfl | exact fun h => absurd rfl h
theorem W_plan (hU : MU Sh N tx) (ho : At Sh N 153 (arE 3 1)) (hV : VI b x) (hb : b < 2 ^ 26) (hC : CI M x) (p q : Int32) : ConH E mL_plan hL_plan 22 8 48 [.ref 0, .int p, .int q, .ref 153] Sh N false M (PR Sh N (LQw M (planI (planA x.ye x.wn x.Rw p q).2) (planA x.ye x.wn x.Rw p q).1 (x.setPl (planK x.pl (planA x.ye x.wn x.Rw p q).2)))) := by
  have u0 := hU.1
  refine ConH.of (by decide +kernel) rfl (by simp [Value.category]) (Nat.le_of_ble_eq_true rfl) (fun k C0 hT Q hQ => ?_)
  have C : CK k E mL_plan kdL_plan 22 8 48 := ⟨C0, kdL_plan_ok⟩
  have o1 : (planA x.ye x.wn x.Rw p q).1 = 1 → HD k E Q 0 0 Sh N M 13 [some (.ref 0), some (.int p), some (.int q), some (.ref 153), none] := fun e => by
    have ex := plan_x (x := x) p q (by rw [e]; decide)
    refine HD.w C rfl (show 4 < 5 by decide) ?_
    refine r_ic (v := nI 1) C rfl (by decide) ?_
    exact q_iret C hQ rfl rfl rfl ⟨rfl, rfl, by rw [e], by rw [ex]; exact hC, fun h => by omega, fun _ _ _ => rfl⟩
  have o2 : (planA x.ye x.wn x.Rw p q).1 = 2 → HD k E Q 0 0 Sh N M 17 [some (.ref 0), some (.int p), some (.int q), some (.ref 153), none] := fun e => by
    have ex := plan_x (x := x) p q (by rw [e]; decide)
    refine HD.w C rfl (show 4 < 5 by decide) ?_
    refine r_ic (v := nI 2) C rfl (by decide) ?_
    exact q_iret C hQ rfl rfl rfl ⟨rfl, rfl, by rw [e], by rw [ex]; exact hC, fun h => by omega, fun _ _ _ => rfl⟩
  refine r_aload_n C 3 rfl rfl rfl rfl ?_
  refine r_ic (v := nI 0) C rfl (by decide) ?_
  refine r_aload_n C 0 rfl rfl rfl rfl ?_
  refine r_iload_n C 1 rfl rfl rfl ?_
  refine r_iload_n C 2 rfl rfl rfl ?_
  refine v2_x C rfl mfX11_plan lk_L_51 (by assumption) (K_plan hU hV hb hC p q) (by omega) (by omega) (fun X h => h.elim (fun h => TH.caught (hpc := 13) (fun e f hpl hp hm cls hcl => by rw [hT]; exact sel_hit C hpl hm hcl (by rw [hp]; rfl) (by decide) (by rw [h.2]; exact wl_18) (by rw [h.2]; exact C.K.2.2.2.2.2.2.2.1.2.2.2.2)) (o1 h.1)) (fun h => TH.caught (hpc := 17) (fun e f hpl hp hm cls hcl => by rw [hT]; exact sel_miss C hpl hm hcl (by rw [hp]; rfl) (by decide) wl_18 (by rw [h.2]; exact C.K.2.2.2.2.2.2.2.1.1) (sel_hit C hpl hm hcl (by rw [hp]; rfl) (by decide) (by rw [h.2]; exact wl_13) (by rw [h.2]; exact C.K.2.2.2.2.2.2.2.1.2.2.2.1))) (o2 h.1))) ?_
  rintro v M1 ⟨e0, rfl, hC1, hF1⟩
  refine r_i2l C rfl ?_
  refine r_last C rfl ho 0 rfl (by decide) (by decide) ?_
  refine r_goto C 21 rfl (by decide) ?_
  refine r_ic (v := nI 0) C rfl (by decide) ?_
  exact q_iret C hQ rfl rfl rfl ⟨rfl, rfl, by rw [e0], hC1.out _, fun _ => up_same _ _ _ _, fun c h1 h2 => by rw [up_row _ _ h2]; exact hF1 c h1⟩
theorem order_x (p q : Int32) : (orderA x.ye x.wn x.Rw x.od p q).1 ≠ 0 → (x.setOd (orK x.od (orderA x.ye x.wn x.Rw x.od p q).2)) = x := by
  unfold orderA
  repeat' split
  all_goals first | exact fun _ => rfl | exact fun h => absurd rfl h
theorem W_order (hU : MU Sh N tx) (ho : At Sh N 153 (arE 3 1)) (hV : VI b x) (hb : b < 2 ^ 26) (hC : CI M x) (p q : Int32) : ConH E mL_order hL_order 22 8 48 [.ref 0, .int p, .int q, .ref 153] Sh N false M (PR Sh N (LQw M (orI (orderA x.ye x.wn x.Rw x.od p q).2) (orderA x.ye x.wn x.Rw x.od p q).1 (x.setOd (orK x.od (orderA x.ye x.wn x.Rw x.od p q).2)))) := by
  have u0 := hU.1
  refine ConH.of (by decide +kernel) rfl (by simp [Value.category]) (Nat.le_of_ble_eq_true rfl) (fun k C0 hT Q hQ => ?_)
  have C : CK k E mL_order kdL_order 22 8 48 := ⟨C0, kdL_order_ok⟩
  have o1 : (orderA x.ye x.wn x.Rw x.od p q).1 = 1 → HD k E Q 0 0 Sh N M 13 [some (.ref 0), some (.int p), some (.int q), some (.ref 153), none] := fun e => by
    have ex := order_x (x := x) p q (by rw [e]; decide)
    refine HD.w C rfl (show 4 < 5 by decide) ?_
    refine r_ic (v := nI 1) C rfl (by decide) ?_
    exact q_iret C hQ rfl rfl rfl ⟨rfl, rfl, by rw [e], by rw [ex]; exact hC, fun h => by omega, fun _ _ _ => rfl⟩
  have o2 : (orderA x.ye x.wn x.Rw x.od p q).1 = 2 → HD k E Q 0 0 Sh N M 17 [some (.ref 0), some (.int p), some (.int q), some (.ref 153), none] := fun e => by
    have ex := order_x (x := x) p q (by rw [e]; decide)
    refine HD.w C rfl (show 4 < 5 by decide) ?_
    refine r_ic (v := nI 2) C rfl (by decide) ?_
    exact q_iret C hQ rfl rfl rfl ⟨rfl, rfl, by rw [e], by rw [ex]; exact hC, fun h => by omega, fun _ _ _ => rfl⟩
  refine r_aload_n C 3 rfl rfl rfl rfl ?_
  refine r_ic (v := nI 0) C rfl (by decide) ?_
  refine r_aload_n C 0 rfl rfl rfl rfl ?_
  refine r_iload_n C 1 rfl rfl rfl ?_
  refine r_iload_n C 2 rfl rfl rfl ?_
  refine v2_x C rfl mfX11_order lk_L_67 (by assumption) (K_order hU hV hb hC p q) (by omega) (by omega) (fun X h => h.elim (fun h => TH.caught (hpc := 13) (fun e f hpl hp hm cls hcl => by rw [hT]; exact sel_hit C hpl hm hcl (by rw [hp]; rfl) (by decide) (by rw [h.2]; exact wl_18) (by rw [h.2]; exact C.K.2.2.2.2.2.2.2.1.2.2.2.2)) (o1 h.1)) (fun h => TH.caught (hpc := 17) (fun e f hpl hp hm cls hcl => by rw [hT]; exact sel_miss C hpl hm hcl (by rw [hp]; rfl) (by decide) wl_18 (by rw [h.2]; exact C.K.2.2.2.2.2.2.2.1.1) (sel_hit C hpl hm hcl (by rw [hp]; rfl) (by decide) (by rw [h.2]; exact wl_13) (by rw [h.2]; exact C.K.2.2.2.2.2.2.2.1.2.2.2.1))) (o2 h.1))) ?_
  rintro v M1 ⟨e0, rfl, hC1, hF1⟩
  refine r_i2l C rfl ?_
  refine r_last C rfl ho 0 rfl (by decide) (by decide) ?_
  refine r_goto C 21 rfl (by decide) ?_
  refine r_ic (v := nI 0) C rfl (by decide) ?_
  exact q_iret C hQ rfl rfl rfl ⟨rfl, rfl, by rw [e0], hC1.out _, fun _ => up_same _ _ _ _, fun c h1 h2 => by rw [up_row _ _ h2]; exact hF1 c h1⟩
theorem hollow_cd (p q z : Int32) : (hollowA x p q z).1 ≤ 1 := by
  unfold hollowA
  repeat' split
  all_goals first | exact Nat.le_refl 1 | exact Nat.zero_le 1
theorem hollow_x (p q z : Int32) : (hollowA x p q z).1 ≠ 0 → (hollowA x p q z).2 = x := by
  unfold hollowA
  repeat' split
  all_goals first | exact fun _ => rfl | exact fun h => absurd rfl h
theorem W_hollow (hU : MU Sh N tx) (hV : VI b x) (hC : CI M x) (p q z : Int32) : ConH E mL_hollow hL_hollow 22 8 48 [.ref 0, .int p, .int q, .int z] Sh N false M (PR Sh N (LQv M (hollowA x p q z).1 (hollowA x p q z).2)) := by
  have u0 := hU.1
  have hcd := hollow_cd (x := x) p q z
  refine ConH.of (by decide +kernel) rfl (by simp [Value.category]) (Nat.le_of_ble_eq_true rfl) (fun k C0 hT Q hQ => ?_)
  have C : CK k E mL_hollow kdL_hollow 22 8 48 := ⟨C0, kdL_hollow_ok⟩
  have o1 : (hollowA x p q z).1 = 1 → HD k E Q 0 0 Sh N M 10 [some (.ref 0), some (.int p), some (.int q), some (.int z), none] := fun e => by
    have ex := hollow_x (x := x) p q z (by rw [e]; decide)
    refine HD.w C rfl (show 4 < 5 by decide) ?_
    refine r_ic (v := nI 1) C rfl (by decide) ?_
    exact q_iret C hQ rfl rfl rfl ⟨rfl, rfl, by rw [e], by rw [ex]; exact hC, fun _ _ => rfl⟩
  refine r_aload_n C 0 rfl rfl rfl rfl ?_
  refine r_iload_n C 1 rfl rfl rfl ?_
  refine r_iload_n C 2 rfl rfl rfl ?_
  refine r_iload_n C 3 rfl rfl rfl ?_
  refine v3_x C rfl mfX11_hollow lk_L_38 (by assumption) (K_hollow hU hV hC p q z) (by omega) (by omega) (fun X h => h.elim (fun h => TH.caught (hpc := 10) (fun e f hpl hp hm cls hcl => by rw [hT]; exact sel_hit C hpl hm hcl (by rw [hp]; rfl) (by decide) (by rw [h.2]; exact wl_18) (by rw [h.2]; exact C.K.2.2.2.2.2.2.2.1.2.2.2.2)) (o1 h.1)) (fun h => absurd h.1 (by omega))) ?_
  rintro v M1 ⟨e0, rfl, hC1, hF1⟩
  refine r_goto C 14 rfl (by decide) ?_
  refine r_ic (v := nI 0) C rfl (by decide) ?_
  exact q_iret C hQ rfl rfl rfl ⟨rfl, rfl, by rw [e0], hC1, hF1⟩
theorem work_cd (p q : Int32) : (workA x p q).1 ≤ 1 := by
  unfold workA
  repeat' split
  all_goals first | exact Nat.le_refl 1 | exact Nat.zero_le 1
theorem work_x (p q : Int32) : (workA x p q).1 ≠ 0 → (workA x p q).2 = x := by
  unfold workA
  repeat' split
  all_goals first | exact fun _ => rfl | exact fun h => absurd rfl h
theorem W_work (hU : MU Sh N tx) (hV : VI b x) (hC : CI M x) (p q : Int32) : ConH E mL_work hL_work 22 8 48 [.ref 0, .int p, .int q] Sh N false M (PR Sh N (LQv M (workA x p q).1 (workA x p q).2)) := by
  have u0 := hU.1
  have hcd := work_cd (x := x) p q
  refine ConH.of (by decide +kernel) rfl (by simp [Value.category]) (Nat.le_of_ble_eq_true rfl) (fun k C0 hT Q hQ => ?_)
  have C : CK k E mL_work kdL_work 22 8 48 := ⟨C0, kdL_work_ok⟩
  have o1 : (workA x p q).1 = 1 → HD k E Q 0 0 Sh N M 9 [some (.ref 0), some (.int p), some (.int q), none] := fun e => by
    have ex := work_x (x := x) p q (by rw [e]; decide)
    refine HD.n C 3 rfl rfl (show 3 < 4 by decide) ?_
    refine r_ic (v := nI 1) C rfl (by decide) ?_
    exact q_iret C hQ rfl rfl rfl ⟨rfl, rfl, by rw [e], by rw [ex]; exact hC, fun _ _ => rfl⟩
  refine r_aload_n C 0 rfl rfl rfl rfl ?_
  refine r_iload_n C 1 rfl rfl rfl ?_
  refine r_iload_n C 2 rfl rfl rfl ?_
  refine v2_x C rfl mfX11_work lk_L_63 (by assumption) (K_work hU hV hC p q) (by omega) (by omega) (fun X h => h.elim (fun h => TH.caught (hpc := 9) (fun e f hpl hp hm cls hcl => by rw [hT]; exact sel_hit C hpl hm hcl (by rw [hp]; rfl) (by decide) (by rw [h.2]; exact wl_18) (by rw [h.2]; exact C.K.2.2.2.2.2.2.2.1.2.2.2.2)) (o1 h.1)) (fun h => absurd h.1 (by omega))) ?_
  rintro v M1 ⟨e0, rfl, hC1, hF1⟩
  refine r_goto C 12 rfl (by decide) ?_
  refine r_ic (v := nI 0) C rfl (by decide) ?_
  exact q_iret C hQ rfl rfl rfl ⟨rfl, rfl, by rw [e0], hC1, hF1⟩
theorem guess_cd (p q : Int32) : (guessA x p q).1 ≤ 1 := by
  unfold guessA
  repeat' split
  all_goals first | exact Nat.le_refl 1 | exact Nat.zero_le 1
theorem guess_x (p q : Int32) : (guessA x p q).1 ≠ 0 → (guessA x p q).2 = x := by
  unfold guessA
  repeat' split
  all_goals first | exact fun _ => rfl | exact fun h => absurd rfl h
theorem W_guess (hU : MU Sh N tx) (hV : VI b x) (hC : CI M x) (p q : Int32) : ConH E mL_guess hL_guess 22 8 48 [.ref 0, .int p, .int q] Sh N false M (PR Sh N (LQv M (guessA x p q).1 (guessA x p q).2)) := by
  have u0 := hU.1
  have hcd := guess_cd (x := x) p q
  refine ConH.of (by decide +kernel) rfl (by simp [Value.category]) (Nat.le_of_ble_eq_true rfl) (fun k C0 hT Q hQ => ?_)
  have C : CK k E mL_guess kdL_guess 22 8 48 := ⟨C0, kdL_guess_ok⟩
  have o1 : (guessA x p q).1 = 1 → HD k E Q 0 0 Sh N M 9 [some (.ref 0), some (.int p), some (.int q), none] := fun e => by
    have ex := guess_x (x := x) p q (by rw [e]; decide)
    refine HD.n C 3 rfl rfl (show 3 < 4 by decide) ?_
    refine r_ic (v := nI 1) C rfl (by decide) ?_
    exact q_iret C hQ rfl rfl rfl ⟨rfl, rfl, by rw [e], by rw [ex]; exact hC, fun _ _ => rfl⟩
  refine r_aload_n C 0 rfl rfl rfl rfl ?_
  refine r_iload_n C 1 rfl rfl rfl ?_
  refine r_iload_n C 2 rfl rfl rfl ?_
  refine v2_x C rfl mfX11_guess lk_L_79 (by assumption) (K_guess hU hV hC p q) (by omega) (by omega) (fun X h => h.elim (fun h => TH.caught (hpc := 9) (fun e f hpl hp hm cls hcl => by rw [hT]; exact sel_hit C hpl hm hcl (by rw [hp]; rfl) (by decide) (by rw [h.2]; exact wl_18) (by rw [h.2]; exact C.K.2.2.2.2.2.2.2.1.2.2.2.2)) (o1 h.1)) (fun h => absurd h.1 (by omega))) ?_
  rintro v M1 ⟨e0, rfl, hC1, hF1⟩
  refine r_goto C 12 rfl (by decide) ?_
  refine r_ic (v := nI 0) C rfl (by decide) ?_
  exact q_iret C hQ rfl rfl rfl ⟨rfl, rfl, by rw [e0], hC1, hF1⟩
theorem stick_x (p q z y : Int32) : (stickA x p q z y).1 ≠ 0 → (stickA x p q z y).2.2 = x := by
  unfold stickA
  repeat' split
  all_goals first | exact fun _ => rfl | exact fun h => absurd rfl h
theorem W_stick (hU : MU Sh N tx) (ho : At Sh N 153 (arE 3 1)) (hC : CI M x) (p q z y : Int32) : ConH E mL_stick hL_stick 22 8 48 [.ref 0, .int p, .int q, .int z, .int y, .ref 153] Sh N false M (PR Sh N (LQw M (stickA x p q z y).2.1 (stickA x p q z y).1 (stickA x p q z y).2.2)) := by
  have u0 := hU.1
  refine ConH.of (by decide +kernel) rfl (by simp [Value.category]) (Nat.le_of_ble_eq_true rfl) (fun k C0 hT Q hQ => ?_)
  have C : CK k E mL_stick kdL_stick 22 8 48 := ⟨C0, kdL_stick_ok⟩
  have o1 : (stickA x p q z y).1 = 1 → HD k E Q 0 0 Sh N M 17 [some (.ref 0), some (.int p), some (.int q), some (.int z), some (.int y), some (.ref 153), none] := fun e => by
    have ex := stick_x (x := x) p q z y (by rw [e]; decide)
    refine HD.w C rfl (show 6 < 7 by decide) ?_
    refine r_ic (v := nI 1) C rfl (by decide) ?_
    exact q_iret C hQ rfl rfl rfl ⟨rfl, rfl, by rw [e], by rw [ex]; exact hC, fun h => by omega, fun _ _ _ => rfl⟩
  refine r_aload C rfl rfl rfl ?_
  refine r_ic (v := nI 0) C rfl (by decide) ?_
  refine r_aload_n C 0 rfl rfl rfl rfl ?_
  refine r_iload_n C 1 rfl rfl rfl ?_
  refine r_iload_n C 2 rfl rfl rfl ?_
  refine r_iload_n C 3 rfl rfl rfl ?_
  refine r_iload C rfl rfl ?_
  refine v4_x C rfl mfX11_stick lk_L_82 (by assumption) (K_stick hU hC p q z y) (by omega) (by omega) (fun X h => TH.caught (hpc := 17) (fun e f hpl hp hm cls hcl => by rw [hT]; exact sel_hit C hpl hm hcl (by rw [hp]; rfl) (by decide) (by rw [h.2]; exact wl_13) (by rw [h.2]; exact C.K.2.2.2.2.2.2.2.1.2.2.2.1)) (o1 h.1)) ?_
  rintro v M1 ⟨e0, rfl, hC1, hF1⟩
  refine r_i2l C rfl ?_
  refine r_last C rfl ho 0 rfl (by decide) (by decide) ?_
  refine r_goto C 21 rfl (by decide) ?_
  refine r_ic (v := nI 0) C rfl (by decide) ?_
  exact q_iret C hQ rfl rfl rfl ⟨rfl, rfl, by rw [e0], hC1.out _, fun _ => up_same _ _ _ _, fun c h1 h2 => by rw [up_row _ _ h2]; exact hF1 c h1⟩
end LWRAPC
