section LWRAPD
variable {E : VE} {Sh : Nat → SE} {N : Nat} {G : Bool} {M M' : MM} {tx b : Nat} {x : ST}
theorem yard_x (p : Int32) (tr wk : Nat → Nat) : (yardA x p tr wk).1 ≠ 0 → (yardA x p tr wk).2.2 = x := by
  unfold yardA
  by_cases h : inI p 0 (nI x.tl) = false
  · rw [if_pos h]
    exact fun _ => rfl
  · rw [if_neg h]
    exact fun h => absurd rfl h
theorem W_yard (hU : MU Sh N tx) (ho : At Sh N 153 (arE 3 1)) (hV : VI b x) (hC : CI M x) (p : Int32) {tr wk : Nat → Nat} (h8 : ∀ i, i < 24 → M 8 i = nI (tr i)) (h9 : ∀ i, i < 90 → M 9 i = nI (wk i)) (hDV : DV (false, (30, 50, 5), (0, tr), (0, wk))) : ConH E mL_yard hL_yard 22 8 48 [.ref 0, .int p, .ref 153] Sh N false M (fun r Sh' N' M' => N' = N ∧ (Sh' = Sh ∨ Sh' = shUp Sh 4 (.inr (6, rdFl 1))) ∧ LQw M (yardA x p tr wk).2.1 (yardA x p tr wk).1 (yardA x p tr wk).2.2 r M') := by
  have u0 := hU.1
  refine ConH.of (by decide +kernel) rfl (by simp [Value.category]) (Nat.le_of_ble_eq_true rfl) (fun k C0 hT Q hQ => ?_)
  have C : CK k E mL_yard kdL_yard 22 8 48 := ⟨C0, kdL_yard_ok⟩
  have o1 : (yardA x p tr wk).1 = 1 → HD k E Q 0 0 Sh N M 12 [some (.ref 0), some (.int p), some (.ref 153), none] := fun e => by
    have ex := yard_x (x := x) p tr wk (by rw [e]; decide)
    refine HD.n C 3 rfl rfl (show 3 < 4 by decide) ?_
    refine r_ic (v := nI 1) C rfl (by decide) ?_
    exact q_iret C hQ rfl rfl rfl ⟨rfl, Or.inl rfl, by rw [e], by rw [ex]; exact hC, fun h => by omega, fun _ _ _ => rfl⟩
  refine r_aload_n C 2 rfl rfl rfl rfl ?_
  refine r_ic (v := nI 0) C rfl (by decide) ?_
  refine r_aload_n C 0 rfl rfl rfl rfl ?_
  refine r_iload_n C 1 rfl rfl rfl ?_
  refine r_callV (As := [.int p]) (rest := [.int (nI 0), .ref 153]) C rfl mfX11_yard lk_L_7 u0 rfl (K_yard hU hV hC p h8 h9 hDV) rfl rfl (by omega) (Nat.le_of_ble_eq_true rfl) (by omega) (by omega) (fun X h => TH.caught (hpc := 12) (fun e f hpl hp hm cls hcl => by rw [hT]; exact sel_hit C hpl hm hcl (by rw [hp]; rfl) (by decide) (by rw [h.2]; exact wl_13) (by rw [h.2]; exact C.K.2.2.2.2.2.2.2.1.2.2.2.1)) (o1 h.1)) ?_
  rintro r Sh1 N1 M1 ⟨rfl, rfl, e0, rfl, hC1, hF1⟩
  have ho1 : At (shUp Sh 4 (.inr (6, rdFl 1))) N1 153 (arE 3 1) := ho.else (by decide)
  refine r_i2l C rfl ?_
  refine r_last C rfl ho1 0 rfl (by decide) (by decide) ?_
  refine r_goto C 15 rfl (by decide) ?_
  refine r_ic (v := nI 0) C rfl (by decide) ?_
  exact q_iret C hQ rfl rfl rfl ⟨rfl, Or.inr rfl, by rw [e0], hC1.out _, fun _ => up_same _ _ _ _, fun c h1 h2 => by rw [up_row _ _ h2]; exact hF1 c h1⟩
/-- nobody writes into the law's own numbers but a wrapper -/
theorem RI.low {o : Nat} (h : RI M o x) (hV : VI b x) (hM : ∀ c, o ≤ c → c < o + 22 → M' c = M c) : RI M' o x := by
  have e : ∀ i, i < 22 → M' (o + i) = M (o + i) := fun i hi => hM _ (by omega) (by omega)
  have e0 : M' o = M o := hM o (by omega) (by omega)
  have er : ∀ r, mrow M' o r = mrow M o r := fun r => by
    unfold mrow
    rw [e 1 (by decide)]
  obtain ⟨r1, r2, r3, r4, r5, r6, r7, r8, r9⟩ := h
  unfold RI RA YR grn ful shr RIm RSt PKR OKR BRR HOR GR RT at *
  simp only [e0, e 4 (by decide), e 5 (by decide), e 6 (by decide), e 7 (by decide), e 8 (by decide), e 9 (by decide), e 10 (by decide), e 11 (by decide), e 13 (by decide), e 16 (by decide), e 17 (by decide), e 18 (by decide), e 21 (by decide), er]
  refine ⟨r1, r2, r3, r4, r5, r6, r7, fun g hg => ?_, r9⟩
  have r := r8 g hg
  unfold GRo at *
  rw [e 19 (by decide), e 20 (by decide), er]
  exact r
end LWRAPD
