section CPUBF
variable {E : VE} {Sh : Nat → SE} {N : Nat} {G : Bool} {M M' M'' : MM} {tx b w yd n : Nat} {x : ST} {R : Row} {Y : YD} {D : DR} {β : Nat → Int32}
theorem YA.else4 {e : SE} (h : YA Sh N yd) (hy : 4 < yd) : YA (shUp Sh 4 e) N yd := ⟨h.1.else (by omega), h.2.1.else (by omega), h.2.2.1.else (by omega), h.2.2.2.else (by omega)⟩
theorem WA.else4 {e : SE} (h : WA Sh N w yd) (hy : 4 < yd) : WA (shUp Sh 4 e) N w yd := by
  obtain ⟨h1, h2, h3, h4, h5, h6⟩ := h
  exact ⟨h1.else (by omega), h2.else (by omega), h3.else (by omega), h4.else (by omega), h5.else4 hy, h6⟩
theorem MU.read (hU : MU Sh N tx) : MU (shUp Sh 4 (.inr (6, rdFl 1))) N 1 := by
  obtain ⟨u0, u1, u2, u3, u4, u6, u10, u14, uw, u31, ui, u48, u51, u116, u117, u120, u121, u124, u125, u128⟩ := hU
  exact ⟨u0.else (by decide), u1.else (by decide), u2.else (by decide), u3.else (by decide), At.same u4.1, u6.else4 (by decide), u10.else4 (by decide), u14.else (by decide), fun i hi => (uw i hi).else4 (by decide), u31.else (by decide), fun i hi => (ui i hi).else4 (by decide), ⟨u48.1.else (by decide), u48.2.1.else (by decide), u48.2.2.1.else (by decide), u48.2.2.2⟩, ⟨u51.1.else (by decide), fun j hj => (u51.2 j hj).else4 (by decide)⟩, At.else u116 (by decide), ⟨u117.1.else (by decide), u117.2.1.else (by decide), u117.2.2.else (by decide)⟩, At.else u120 (by decide), ⟨u121.1.else (by decide), u121.2.1.else (by decide), u121.2.2.else (by decide)⟩, At.else u124 (by decide), ⟨u125.1.else (by decide), u125.2.1.else (by decide), u125.2.2.else (by decide)⟩, ⟨u128.1.else (by decide), u128.2.1.else (by decide), u128.2.2.else (by decide)⟩⟩
theorem K_yard (hU : MU Sh N tx) (hV : VI b x) (hC : CI M x) (p : Int32) {tr wk : Nat → Nat} (h8 : ∀ i, i < 24 → M 8 i = nI (tr i)) (h9 : ∀ i, i < 90 → M 9 i = nI (wk i)) (hDV : DV (false, (30, 50, 5), (0, tr), (0, wk))) : Con E mX11_yard 20 8 48 [.ref 0, .int p] Sh N G M (fun r Sh' N' M' => Sh' = shUp Sh 4 (.inr (6, rdFl 1)) ∧ N' = N ∧ CQ M (yardA x p tr wk).2.1 (yardA x p tr wk).1 (yardA x p tr wk).2.2 r M') (fun X => (yardA x p tr wk).1 = 1 ∧ X = XI) := by
  have hU1 := hU.read
  obtain ⟨u0, u1, u2, u3, u4, u6, u10, u14, uw, u31, ui, u48, u51, u116, u117, u120, u121, u124, u125, u128⟩ := id hU
  obtain ⟨c1, c2, c3, c4, c5, c6, c7, c8, c9, c10, c11⟩ := id hC
  have htl : x.tl ≤ 700 := hV.2.2.2.2.2.2.2.2
  refine Con.ofQ (by decide +kernel) (by simp [Value.category]) (Nat.le_of_ble_eq_true rfl) (fun k C0 Q hQ => ?_)
  have C : CK k E mX11_yard kdX11_yard 20 8 48 := ⟨C0, kdX11_yard_ok⟩
  have no : inI p 0 (nI x.tl) = false → PT k E Q 8 48 Sh N G M 12 [some (.ref 0), some (.int p), none] [] := fun h => r_iae C hQ ⟨by rw [yardA, if_pos h], rfl⟩ (text := "the tape has not so many bytes") (n := 18) (by decide +kernel) rfl rfl rfl rfl rfl
  refine r_iload_n C 1 rfl rfl rfl ?_
  refine r_if_lt C 12 rfl (by decide) (fun h => no (inI_lo h)) (fun h1 => ?_)
  refine r_iload_n C 1 rfl rfl rfl ?_
  refine r_aload_n C 0 rfl rfl rfl rfl ?_
  refine r_geti C rfl f_X11_123 (by assumption) rfl ?_
  rw [c1.1]
  refine r_icmp_le C 22 rfl (by decide) (fun h2 => ?_) (fun h2 => no (inI_hi (Int32.not_le.mp h2)))
  have hin : inI p 0 (nI x.tl) = true := decide_eq_true ⟨Int32.not_lt.mp h1, h2⟩
  obtain ⟨m, -, hm, rfl⟩ := (inI_iff (a := 0) (by decide) (by omega)).mp hin
  obtain ⟨y, hy⟩ : ∃ y, y = readF (bet x) m tr wk := ⟨_, rfl⟩
  have ea : yardA x (nI m) tr wk = (0, nI y.1.1, if y.1.1 = 0 then yNew x y.2 else yBad x y.1) := by rw [yardA, if_neg (by rw [hin]; decide), nI_clamp (by omega), hy]
  have hyc : y.1.1 < 100 := by rw [hy]; exact linesF_c _ _ (by show 0 < 100; decide)
  have hyd : DV y.2 := by rw [hy]; exact linesF_d _ _ hDV
  rw [ea] at hQ
  refine r_aload_n C 0 rfl rfl rfl rfl ?_
  refine r_getv C rfl f_X11_27 (by assumption) rfl ?_
  refine r_aload_n C 0 rfl rfl rfl rfl ?_
  refine r_getv C rfl f_X11_9 (by assumption) rfl ?_
  refine r_iload_n C 1 rfl rfl rfl ?_
  refine r_aload_n C 0 rfl rfl rfl rfl ?_
  refine r_getv C rfl f_X11_34 (by assumption) rfl ?_
  refine r_callV (As := [.ref 1, .int (nI m), .ref 6]) (rest := []) C rfl mfX6_read lk_X11_137 u4 rfl (d_read u4 u1 u6 (by omega) (by omega) (by omega) (β := bet x) (fun i hi => by obtain ⟨q1, q2⟩ := c1.2.1 i (by omega); rw [q1]; exact ⟨q2, rfl⟩) h8 h9 hDV) rfl rfl (by omega) (by decide) (Nat.zero_le _) (Nat.zero_le _) (fun _ h => h.elim) ?_
  rintro r Sh1 N1 M1 ⟨rfl, rfl, rfl, hF1, hf, hD1⟩
  rw [← hy] at hf hD1
  rw [← hy]
  have hD1' : CD M1 := ⟨y.2.2.2.1.2, y.2.2.2.2.2, hD1.2.2.2.2.1, hD1.2.2.2.2.2, ⟨show 30 ≤ 99 by decide, show 50 ≤ 99 by decide, show 5 ≤ 99 by decide⟩, Nat.zero_le _, Nat.zero_le _, fun i hi => ⟨fun q => absurd q (Nat.not_lt_zero i), (hyd.2.2.2.1 i hi).2⟩, fun k hk => absurd hk (Nat.not_lt_zero k)⟩
  obtain ⟨v0, v1, v2, v3, v4, v6, v10, v14, vw, v31, vi, v48, v51, v116, v117, v120, v121, v124, v125, v128⟩ := id hU1
  refine r_istore_n C 2 rfl rfl (by exact Nat.le_of_ble_eq_true rfl) ?_
  refine r_aload_n C 0 rfl rfl rfl rfl ?_
  refine r_ic (v := nI 0) C rfl (by decide) ?_
  refine r_puti C rfl f_X11_123 (by assumption) rfl rfl rfl ?_
  refine r_aload_n C 0 rfl rfl rfl rfl ?_
  refine r_aload_n C 0 rfl rfl rfl rfl ?_
  refine r_getv C rfl f_X11_27 (by assumption) rfl ?_
  refine r_geti C rfl f_X11_141 (by assumption) rfl ?_
  rw [up_row _ _ (by decide), hf]
  refine r_puti C rfl f_X11_13 (by assumption) rfl rfl rfl ?_
  refine r_iload_n C 2 rfl rfl rfl ?_
  obtain ⟨M2, hM2⟩ : ∃ M2, M2 = up (up M1 0 1 (nI 0)) 0 2 (fpl y.1) := ⟨_, rfl⟩
  refine r_eqM (M' := M2) hM2.symm ?_
  have hF2 : Fr (fun c => c = 0 ∨ SY 4 6 c) M M2 := fun c hc => by rw [hM2, up_row _ _ (by omega), up_row _ _ (by omega)]; exact hF1 c (by omega)
  have n0 : ∀ j, j ≠ 1 → j ≠ 2 → M2 0 j = M 0 j := fun j q1 q2 => by rw [hM2, up_ne _ _ (by omega), up_ne _ _ (by omega), hF1 0 (by decide)]
  have n1 : M2 0 1 = nI 0 := by rw [hM2, up_ne _ _ (by omega), up_same]
  have n2 : M2 0 2 = fpl y.1 := by rw [hM2, up_same]
  have hD2 : CD M2 := by
    unfold CD
    rw [hM2, up_row _ _ (by decide), up_row _ _ (by decide), up_row _ _ (by decide), up_row _ _ (by decide)]
    exact hD1'
  refine r_if_eq C 71 rfl (by decide) (fun h => ?_) (fun h => ?_)
  rotate_left
  · have h : y.1.1 ≠ 0 := fun z => h (by rw [z]; rfl)
    rw [if_neg h] at hQ
    have hC2 : CI M2 (x.setT 0 x.tp (nI y.1.2.1)) := by
      refine ⟨⟨n1, fun i hi => absurd hi (Nat.not_lt_zero i), by rw [n2, fpl, if_neg h]; rfl⟩, c2.keep hF2 (by decide), ⟨by rw [n0 5 (by decide) (by decide)]; exact c3.1, fun q => ⟨fun i hi => ?_, fun i hi => ?_⟩⟩, hD2, c5.keep hF2 (by decide) (by decide), c6.keep hF2 (fun c _ _ => by omega), c7.cong (hF2 _ (by decide)) (hF2 _ (by decide)), c8.cong (hF2 _ (by decide)) (hF2 _ (by decide)), c9.cong (hF2 _ (by decide)), c10.cong2 (hF2 _ (by decide)) (hF2 _ (by decide)) (hF2 _ (by decide)), c11.cong (hF2 _ (by decide)) (hF2 _ (by decide))⟩
      · rw [hF2.row (32 + 4 * i) (fun c _ _ => by omega)]
        exact (c3.2 q).1 i hi
      · rw [hF2 3 (by decide)]
        exact (c3.2 q).2 i hi
    refine r_aload_n C 0 rfl rfl rfl rfl ?_
    refine r_getv C rfl f_X11_17 (by assumption) rfl ?_
    refine r_ic (v := nI 0) C rfl (by decide) ?_
    refine r_dup2 C rfl rfl rfl ?_
    refine r_iald C rfl (by assumption) (0) rfl (by omega) (by decide) ?_
    rw [hC2.2.1 0 (by decide)]
    refine r_ic (v := nI 1) C rfl (by decide) ?_
    refine r_iadd C rfl ?_
    refine r_iast C rfl (by assumption) (0) rfl (by omega) (by decide) ?_
    refine r_iload_n C 2 rfl rfl rfl ?_
    exact q_iret C hQ rfl rfl rfl ⟨rfl, rfl, rfl, rfl, hC2.ups 0 rfl, fun c hc => by rw [up_row _ _ (by omega)]; exact hF2 c (by omega)⟩
  have h : y.1.1 = 0 := (nI_eq (b := 0) (by omega) (by omega)).mp h
  rw [if_pos h] at hQ
  refine r_aload_n C 0 rfl rfl rfl rfl ?_
  refine v0_g C rfl mfX11_beginAnew lk_X11_142 (by assumption) (K_begin hU1 (D := y.2) (hD1.cong (fun c q1 q2 => by rw [hM2, up_row _ _ (by omega), up_row _ _ (by omega)])) hyd x.hw x.hc x.Cr) ?_
  rintro z M3 ⟨rfl, hF3, m0, m5, hD3, hr, k1, k2, k3, k4, k5⟩
  have hF : Fr (fun c => SBg c ∨ SY 4 6 c) M M3 := hF2.trans hF3 (fun c q => by simp only [SBg]; omega) (fun c q => Or.inl q)
  refine r_ic (v := nI 0) C rfl (by decide) ?_
  refine q_iret C hQ rfl rfl rfl ⟨rfl, rfl, rfl, by rw [h], ?_, fun c hc => hF c (by simp only [SBg, SY]; omega)⟩
  obtain ⟨t1, t2, t3, ⟨t4, t5, t6, t7⟩, t8, t9⟩ := hD3
  refine ⟨⟨(m0 1 (by decide)).trans n1, fun i hi => absurd hi (Nat.not_lt_zero i), (m0 2 (by decide)).trans (n2.trans (by rw [fpl, if_pos h]; rfl))⟩, c2.keep hF (by decide), ⟨m5, fun q => by cases q⟩, ?_, ⟨t2, t7, t5, t6, t3, fun k hk => ?_⟩, fun i hi => ?_, ⟨Nat.zero_le _, k1, fun i hi => absurd hi (Nat.not_lt_zero i)⟩, ⟨Nat.zero_le _, k2, fun i hi => absurd hi (Nat.not_lt_zero i)⟩, k3, k4, k5⟩
  · exact hD2.keep hF3 (by decide) (by decide)
  · have hk : k < y.2.2.2.2.1 := hk
    have := hyd.2.2.1
    refine ⟨t9 _ (by omega), t9 _ (by omega), ?_⟩
    rw [t9 _ (by omega)]
    rfl
  · show Ag _ (rw0 y.2 i)
    have e1 : ∀ j, j < 13 → wrow M3 (15 + 4 * i) j = rw0 y.2 i j := fun j hj => by
      rw [hr i hi j hj]
      unfold rw0
      by_cases q : i < y.2.2.2.1.1
      · rw [if_pos q]
        exact b_f ((hyd.2.2.2.1 i hi).1 q) (hyd.2.2.2.1 i hi).2.2.2.2.1
      · rw [if_neg q]
    have e0 : mno (wrow M3 (15 + 4 * i)) = 0 := by
      unfold mno
      rw [hr i hi 1 (by decide)]
      rfl
    unfold Ag
    rw [e0]
    exact ⟨e1, fun l hl => absurd hl (Nat.not_lt_zero l), fun p hp => absurd hp (Nat.not_lt_zero _)⟩
end CPUBF
