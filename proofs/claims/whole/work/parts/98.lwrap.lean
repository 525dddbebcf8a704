section LWRAP
variable {E : VE} {Sh : Nat → SE} {N : Nat} {G : Bool} {M M' : MM} {tx b : Nat} {x : ST}
theorem wl_18 : Cond.classLink RL 18 XN ∈ TB := tb4 27 (by decide +kernel) (by decide +kernel)
theorem wl_13 : Cond.classLink RL 13 XI ∈ TB := tb3 49 (by decide +kernel) (by decide +kernel)
/-- what a wrapper of the law owes -/
abbrev LQw (M : MM) (ans : Int32) (cd : Nat) (x' : ST) : Option Value → MM → Prop := fun r M' => r = some (.int (nI cd)) ∧ CI M' x' ∧ (cd = 0 → M' 153 0 = ans) ∧ ∀ c, 131 ≤ c → c ≠ 153 → M' c = M c
theorem CI.out (h : CI M x) (v : Int32) : CI (up M 153 0 v) x := by
  have hF : Fr (fun c => c = 153) M (up M 153 0 v) := fun c hc => up_row _ _ hc
  obtain ⟨c1, c2, c3, c4, c5, c6, c7, c8, c9, c10, c11⟩ := h
  exact ⟨c1.keep hF (by decide) (by decide), c2.keep hF (by decide), c3.keep hF (by decide) (by decide) (fun c _ _ => by omega), c4.keep hF (by decide) (by decide), c5.keep hF (by decide) (by decide), c6.keep hF (fun c _ _ => by omega), c7.cong (hF _ (by decide)) (hF _ (by decide)), c8.cong (hF _ (by decide)) (hF _ (by decide)), c9.cong (hF _ (by decide)), c10.cong2 (hF _ (by decide)) (hF _ (by decide)) (hF _ (by decide)), c11.cong (hF _ (by decide)) (hF _ (by decide))⟩
theorem count_cd (z : Int32) : (countA x z).1 ≤ 1 := by
  unfold countA
  repeat' split
  all_goals first | exact Nat.le_refl 1 | exact Nat.zero_le 1
theorem W_count (hU : MU Sh N tx) (ho : At Sh N 153 (arE 3 1)) (hV : VI b x) (hC : CI M x) (z : Int32) : ConH E mL_count hL_count 22 8 48 [.ref 0, .int z, .ref 153] Sh N false M (PR Sh N (LQw M (countA x z).2 (countA x z).1 x)) := by
  have u0 := hU.1
  have hcd := count_cd (x := x) z
  refine ConH.of (by decide +kernel) rfl (by simp [Value.category]) (Nat.le_of_ble_eq_true rfl) (fun k C0 hT Q hQ => ?_)
  have C : CK k E mL_count kdL_count 22 8 48 := ⟨C0, kdL_count_ok⟩
  have one : (countA x z).1 = 1 → HD k E Q 0 0 Sh N M 12 [some (.ref 0), some (.int z), some (.ref 153), none] := fun e => by
    refine HD.n C 3 rfl rfl (show 3 < 4 by decide) ?_
    refine r_ic (v := nI 1) C rfl (by decide) ?_
    exact q_iret C hQ rfl rfl rfl ⟨rfl, rfl, by rw [e], hC, fun h => by omega, fun _ _ _ => rfl⟩
  refine r_aload_n C 2 rfl rfl rfl rfl ?_
  refine r_ic (v := nI 0) C rfl (by decide) ?_
  refine r_aload_n C 0 rfl rfl rfl rfl ?_
  refine r_iload_n C 1 rfl rfl rfl ?_
  refine v1_x C rfl mfX11_count lk_L_15 (by assumption) (K_count hU hV hC z) (by omega) (by omega) (fun X h => h.elim (fun h => TH.caught (hpc := 12) (fun e f hpl hp hm cls hcl => by rw [hT]; exact sel_hit C hpl hm hcl (by rw [hp]; rfl) (by decide) (by rw [h.2]; exact wl_18) (by rw [h.2]; exact C.K.2.2.2.2.2.2.2.1.2.2.2.2)) (one h.1)) (fun h => absurd h.1 (by omega))) ?_
  rintro v M1 ⟨e0, rfl, hC1, hF1⟩
  refine r_i2l C rfl ?_
  refine r_last C rfl ho 0 rfl (by decide) (by decide) ?_
  refine r_goto C 15 rfl (by decide) ?_
  refine r_ic (v := nI 0) C rfl (by decide) ?_
  exact q_iret C hQ rfl rfl rfl ⟨rfl, rfl, by rw [e0], hC1.out _, fun _ => up_same _ _ _ _, fun c h1 h2 => by rw [up_row _ _ h2]; exact hF1 c h1⟩
end LWRAP
