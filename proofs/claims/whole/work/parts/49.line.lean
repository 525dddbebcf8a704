section LINE
variable {E : VE} {Sh : Nat → SE} {N : Nat} {G : Bool} {M : MM} {o r w v yd yv t b w0 fo : Nat} {R : Row} {Y : YD}
theorem wrow_t (M : MM) (w : Nat) {j : Nat} (h : j < 13) : wrow M w j = M w (j + 4) := by simp only [wrow]; rw [if_pos h]
theorem wrow_b (M : MM) (w : Nat) {j : Nat} (h : j < 24) : wrow M w (13 + j) = M (w + 3) j := by
  simp only [wrow]
  rw [if_neg (by omega), if_pos (by omega), show 13 + j - 13 = j by omega]
theorem wrow_w (M : MM) (w : Nat) {j : Nat} (h : j < 144) : wrow M w (37 + j) = M (w + 1) j := by
  simp only [wrow]
  rw [if_neg (by omega), if_neg (by omega), if_pos (by omega), show 37 + j - 37 = j by omega]
theorem wrow_m (M : MM) (w j : Nat) : wrow M w (181 + j) = M (w + 2) j := by
  simp only [wrow]
  rw [if_neg (by omega), if_neg (by omega), if_neg (by omega), show 181 + j - 181 = j by omega]
theorem w_like (hA : WA Sh N w yd) (hB : WA Sh N v yv) (dp mn : Nat) (hW : WF (wrow M w) dp mn) : Con E mX8_standsLike 1 0 0 [.ref w, .ref v] Sh N G M (PR Sh N (fun x M' => M' = M ∧ ∃ z, x = some (.int (bI z)) ∧ (z = true → LkB (wrow M w) (wrow M v)))) nox := by
  have eM := wf_mn hW
  have eD := wf_dp hW
  obtain ⟨h0, w1, w2, h1, w4⟩ := hW
  rw [wrow_t M w (by decide)] at h0 h1
  obtain ⟨a0, a1, a2, a3, -, -⟩ := hA
  obtain ⟨c0, c1, c2, c3, -, -⟩ := hB
  refine Con.ofQ (by decide +kernel) (by simp [Value.category]) (Nat.le_of_ble_eq_true rfl) (fun k C0 Q hQ => ?_)
  have C : CK k E mX8_standsLike kdX8_standsLike 1 0 0 := ⟨C0, kdX8_standsLike_ok⟩
  have no : ∀ {pc : Nat} {L : List (Option Value)}, cod kdX8_standsLike pc = some (.iconst 0, 1) → cod kdX8_standsLike (pc + 1) = some (.ireturn, 1) → PT k E Q 0 0 Sh N G M pc L [] := by
    intro pc L d1 d2
    refine r_ic (v := nI 0) C d1 (by decide) ?_
    exact q_iret C hQ d2 rfl rfl ⟨rfl, rfl, rfl, false, rfl, fun z => by cases z⟩
  have outer : M v 4 = nI dp → M v 5 = nI mn → ∀ n l : Nat, l ≤ mn → mn - l < n → (∀ i, i < l → M (w + 3) i = M (v + 3) i) → (∀ p, p < 6 * l → p % 6 < dp → M (w + 1) p = M (v + 1) p ∧ M (w + 2) p = M (v + 2) p) → ∀ v3 v4, PT k E Q 0 0 Sh N G M 26 [some (.ref w), some (.ref v), some (.int (nI l)), v3, v4] [] := by
    intro hv4 hv5
    intro n
    induction n with
    | zero => intro i _ h; omega
    | succ n ih =>
      intro l hl hn i1 i2 v3 v4
      refine r_iload_n C 2 rfl rfl rfl ?_
      refine r_aload_n C 0 rfl rfl rfl rfl ?_
      refine r_geti C rfl f_X8_62 (by assumption) rfl ?_
      rw [h1]
      refine r_icmp_ge C 118 rfl (by decide) (fun h => ?_) (fun h => ?_)
      · have h := le_nI (by omega) (by omega) h
        refine r_ic (v := nI 1) C rfl (by decide) ?_
        refine q_iret C hQ rfl rfl rfl ⟨rfl, rfl, rfl, true, rfl, fun _ => ⟨?_, ?_, ?_, ?_⟩⟩
        · rw [wrow_t M w (by decide), wrow_t M v (by decide), h0, hv4]
        · rw [wrow_t M w (by decide), wrow_t M v (by decide), h1, hv5]
        · rw [eM]
          intro i hi
          rw [wrow_b M w (by omega), wrow_b M v (by omega), i1 i (by omega)]
        · rw [eM, eD]
          intro p p1 p2
          rw [wrow_w M w (by omega), wrow_w M v (by omega), wrow_m, wrow_m]
          exact i2 p (by omega) p2
      have h := nle_nI (by omega) (by omega) h
      refine r_aload_n C 0 rfl rfl rfl rfl ?_
      refine r_getv C rfl f_X8_18 (by assumption) rfl ?_
      refine r_iload_n C 2 rfl rfl rfl ?_
      refine r_iald C rfl (by assumption) (l) rfl (by omega) (by decide) ?_
      refine r_aload_n C 1 rfl rfl rfl rfl ?_
      refine r_getv C rfl f_X8_18 (by assumption) rfl ?_
      refine r_iload_n C 2 rfl rfl rfl ?_
      refine r_iald C rfl (by assumption) (l) rfl (by omega) (by decide) ?_
      refine r_icmp_eq C 51 rfl (by decide) (fun h2 => ?_) (fun h2 => no rfl rfl)
      refine r_iload_n C 2 rfl rfl rfl ?_
      refine r_bi (v := nI 6) C rfl (by decide) ?_
      refine r_imul C rfl ?_
      refine r_istore_n C 3 rfl rfl (by exact Nat.le_of_ble_eq_true rfl) ?_
      rw [pk_mul, Nat.mul_comm]
      refine r_iload_n C 3 rfl rfl rfl ?_
      refine r_istore C rfl (by exact Nat.le_of_ble_eq_true rfl) ?_
      have inner : ∀ n c : Nat, c ≤ dp → dp - c < n → (∀ p, p < 6 * l + c → p % 6 < dp → M (w + 1) p = M (v + 1) p ∧ M (w + 2) p = M (v + 2) p) → PT k E Q 0 0 Sh N G M 59 [some (.ref w), some (.ref v), some (.int (nI l)), some (.int (nI (6 * l))), some (.int (nI (6 * l + c)))] [] := by
        have ih2 := ih
        have hn2 := hn
        intro n
        induction n with
        | zero => intro i _ h; omega
        | succ n ih =>
          intro c hc hn i3
          refine r_iload C rfl rfl ?_
          refine r_iload_n C 3 rfl rfl rfl ?_
          refine r_aload_n C 0 rfl rfl rfl rfl ?_
          refine r_geti C rfl f_X8_21 (by assumption) rfl ?_
          rw [h0]
          refine r_iadd C rfl ?_
          rw [nI_add]
          refine r_icmp_ge C 112 rfl (by decide) (fun h3 => ?_) (fun h3 => ?_)
          · have h3 := le_nI (by omega) (by omega) h3
            refine r_iinc (c := nI 1) C rfl rfl (by decide) ?_
            refine r_goto C 26 rfl (by decide) ?_
            refine r_eqL ?_ (ih2 (l + 1) (by omega) (by omega) (fun i hi => ?_) (fun p p1 p2 => ?_) (some (.int (nI (6 * l)))) (some (.int (nI (6 * l + c)))))
            · first | rfl | (simp only [sm, add3, nI_add, Int32.add_zero, Int32.zero_add]; rfl)
            · by_cases e : i = l
              · rw [e]; exact h2
              · exact i1 i (by omega)
            · by_cases e : p < 6 * l + c
              · exact i3 p e p2
              · omega
          have h3 := nle_nI (by omega) (by omega) h3
          refine r_aload_n C 0 rfl rfl rfl rfl ?_
          refine r_getv C rfl f_X8_9 (by assumption) rfl ?_
          refine r_iload C rfl rfl ?_
          refine r_iald C rfl (by assumption) (6 * l + c) rfl (by omega) (by decide) ?_
          refine r_aload_n C 1 rfl rfl rfl rfl ?_
          refine r_getv C rfl f_X8_9 (by assumption) rfl ?_
          refine r_iload C rfl rfl ?_
          refine r_iald C rfl (by assumption) (6 * l + c) rfl (by omega) (by decide) ?_
          refine r_icmp_ne C 104 rfl (by decide) (fun h4 => no rfl rfl) (fun h4 => ?_)
          refine r_aload_n C 0 rfl rfl rfl rfl ?_
          refine r_getv C rfl f_X8_15 (by assumption) rfl ?_
          refine r_iload C rfl rfl ?_
          refine r_iald C rfl (by assumption) (6 * l + c) rfl (by omega) (by decide) ?_
          refine r_aload_n C 1 rfl rfl rfl rfl ?_
          refine r_getv C rfl f_X8_15 (by assumption) rfl ?_
          refine r_iload C rfl rfl ?_
          refine r_iald C rfl (by assumption) (6 * l + c) rfl (by omega) (by decide) ?_
          refine r_icmp_eq C 106 rfl (by decide) (fun h5 => ?_) (fun h5 => no rfl rfl)
          refine r_iinc (c := nI 1) C rfl rfl (by decide) ?_
          refine r_goto C 59 rfl (by decide) ?_
          refine r_eqL ?_ (ih (c + 1) (by omega) (by omega) (fun p p1 p2 => ?_))
          · first | rfl | (simp only [sm, add3, nI_add, Int32.add_zero, Int32.zero_add]; rfl)
          · by_cases e : p = 6 * l + c
            · rw [e]; exact ⟨h4, h5⟩
            · exact i3 p (by omega) p2
      exact inner (dp + 1) 0 (by omega) (by omega) i2
  refine r_aload_n C 0 rfl rfl rfl rfl ?_
  refine r_geti C rfl f_X8_62 (by assumption) rfl ?_
  refine r_aload_n C 1 rfl rfl rfl rfl ?_
  refine r_geti C rfl f_X8_62 (by assumption) rfl ?_
  rw [h1]
  refine r_icmp_ne C 22 rfl (by decide) (fun h => no rfl rfl) (fun h => ?_)
  refine r_aload_n C 0 rfl rfl rfl rfl ?_
  refine r_geti C rfl f_X8_21 (by assumption) rfl ?_
  refine r_aload_n C 1 rfl rfl rfl rfl ?_
  refine r_geti C rfl f_X8_21 (by assumption) rfl ?_
  rw [h0]
  refine r_icmp_eq C 24 rfl (by decide) (fun h2 => ?_) (fun h2 => no rfl rfl)
  refine r_ic (v := nI 0) C rfl (by decide) ?_
  refine r_istore_n C 2 rfl rfl (by exact Nat.le_of_ble_eq_true rfl) ?_
  exact outer h2.symm h.symm (mn + 1) 0 (by omega) (by omega) (fun i hi => by omega) (fun p hp => by omega) none none
theorem p_like (hA : WA Sh N w yd) (hB : WA Sh N v yv) {R' : Row} {b' : Nat} (hO : OK b R) (a : Ag (wrow M w) R) (a' : Ag (wrow M v) R') : Con E mX8_standsLike 1 0 0 [.ref w, .ref v] Sh N G M (PR Sh N (fun x M' => M' = M ∧ ∃ z, x = some (.int (bI z)) ∧ (z = true → LkB R R'))) nox := by
  have hX := hO.ag a.symm
  refine Con.post (w_like (E := E) (G := G) hA hB _ _ hX.wf) ?_
  rintro x Sh' N' M1 ⟨rfl, rfl, hM, z, hz, h⟩
  exact ⟨rfl, rfl, hM, z, hz, fun q => lkb_ag (h q) a a'⟩
abbrev FS (w0 t k : Nat) : Prop := (w0 ≤ k ∧ k < w0 + 8) ∨ TS t k
theorem f_paste (hFo : FA Sh N fo yd t w0) (hB : WA Sh N w0 yd) (hB2 : WA Sh N (w0 + 4) yd) (hT : TA Sh N t yd) (hd2 : t + 3 ≤ w0) (hY : YC M yd Y) (hF : Y.Fine) (hO : OK b R) (hb : b < 2 ^ 29) (a : Ag (wrow M w0) R) {x : Int32} (n : Nat) (hx : x = nI n) (hn : n ≤ 520) :
    Con E mX1_firstPaste 6 0 0 [.ref fo, .int x] Sh N G M (PR Sh N (fun v M' => v = some (.int (pasteS Y n 1 R)) ∧ Fr (FS w0 t) M M')) nox := by
  subst hx
  obtain ⟨b0, -, -, -, ⟨y0, -, -, -⟩, b5⟩ := id hB
  have c0 := hB2.1
  have t0 := hT.1
  have t3 := hT.2.2.2
  unfold FA at hFo
  have hwk := hF.2.1
  refine Con.ofQ (by decide +kernel) (by simp [Value.category]) (Nat.le_of_ble_eq_true rfl) (fun k C0 Q hQ => ?_)
  have C : CK k E mX1_firstPaste kdX1_firstPaste 6 0 0 := ⟨C0, kdX1_firstPaste_ok⟩
  generalize hans : pasteS Y n 1 R = ans at hQ
  obtain ⟨rd, hrd⟩ : ∃ rd, rd = max 1 Y.wk := ⟨_, rfl⟩
  have loop : ∀ (f k1 s : Nat) (M1 : MM) (R1 B : Row) (bb : Nat), k1 + f = n + 1 → Fr (FS w0 t) M M1 → s < rd → bb + s = b + (k1 - 1) → OK bb B → Ag (wrow M1 (w0 + 4)) B → R1 = wkN Y s B → (∀ i, 1 ≤ i → i ≤ s → pst (wkN Y i B) = false) → Ag (wrow M1 w0) R1 → 1 ≤ k1 → ans = pasteS Y f k1 R1 → PT k E Q 0 0 Sh N G M1 28 [some (.ref fo), some (.int (nI n)), some (.int (nI rd)), some (.int (nI s)), some (.int (nI k1))] [] := by
    intro f
    induction f with
    | zero =>
      intro k1 s M1 R1 B bb hk hFr hs hbb hOB aB hR1 hnp a1 hk1 he
      refine r_iload C rfl rfl ?_
      refine r_iload_n C 1 rfl rfl rfl ?_
      refine r_icmp_gt C 102 rfl (by decide) (fun h => ?_) (fun h => absurd ((nI_ltI (by omega) (by omega)).mpr (by omega)) h)
      refine r_ic (v := (-1)) C rfl (by decide) ?_
      exact q_iret C hQ rfl rfl rfl ⟨rfl, rfl, by rw [he]; rfl, hFr⟩
    | succ f ih =>
      intro k1 s M1 R1 B bb hk hFr hs hbb hOB aB hR1 hnp a1 hk1 he
      have hO1 : OK (bb + s) R1 := by rw [hR1]; exact ok_wkN hF hOB (by omega)
      have hY1 : YC M1 yd Y := hY.cong (hFr _ (by omega)) (hFr _ (by omega))
      rw [pasteS] at he
      refine r_iload C rfl rfl ?_
      refine r_iload_n C 1 rfl rfl rfl ?_
      refine r_icmp_gt C 102 rfl (by decide) (fun h => ?_) (fun h => ?_)
      · have h := lt_nI (by omega) (by omega) h
        omega
      refine r_aload_n C 0 rfl rfl rfl rfl ?_
      refine r_getv C rfl f_X1_15 (by assumption) rfl ?_
      refine r_aload_n C 0 rfl rfl rfl rfl ?_
      refine r_getv C rfl f_X1_19 (by assumption) rfl ?_
      refine v1_g C rfl mfX9_pass lk_X1_36 (by assumption) (p_pass hB hT (by omega) hY1 hF hO1 (by omega) a1) ?_
      rintro v M2 ⟨rfl, a2, hFr2⟩
      have hFr3 : Fr (FS w0 t) M M2 := hFr.trans hFr2 (fun _ q => q) (fun k q => by simp only [FS, WS, TS] at q ⊢; omega)
      have aB2 : Ag (wrow M2 (w0 + 4)) B := by rw [hFr2.row (w0 + 4) (fun k h1 h2 q => by simp only [WS] at q; omega)]; exact aB
      have hO2 := ok_wk (Y := Y) hF hO1 (by omega)
      refine r_pop C rfl rfl ?_
      refine r_aload_n C 0 rfl rfl rfl rfl ?_
      refine r_getv C rfl f_X1_19 (by assumption) rfl ?_
      refine v0_r C rfl mfX8_footIsPaste lk_X1_64 (by assumption) (p_foot hB hO2 a2) ?_
      refine r_if_eq C 59 rfl (by decide) (fun h2 => ?_) (fun h2 => ?_)
      rotate_left
      · rw [bI_1 h2, if_pos rfl] at he
        refine r_iload C rfl rfl ?_
        exact q_iret C hQ rfl rfl rfl ⟨rfl, rfl, by rw [he], hFr3⟩
      have hnp1 := bI_0 h2
      rw [hnp1, if_neg (by decide)] at he
      have hnp2 : ∀ i, 1 ≤ i → i ≤ s + 1 → pst (wkN Y i B) = false := by
        intro i h3 h4
        by_cases e : i = s + 1
        · rw [e, wkN, ← hR1]; exact hnp1
        · exact hnp i h3 (by omega)
      have hR2 : wkR Y R1 = wkN Y (s + 1) B := by rw [wkN, ← hR1]
      refine r_iinc (c := nI 1) C rfl rfl (by decide) ?_
      refine r_iload_n C 3 rfl rfl rfl ?_
      refine r_iload_n C 2 rfl rfl rfl ?_
      rw [nI_add]
      refine r_icmp_ne C 96 rfl (by decide) (fun h3 => ?_) (fun h3 => ?_)
      · have h3 : s + 1 ≠ rd := fun e => h3 (by rw [e])
        refine r_iinc (c := nI 1) C rfl rfl (by decide) ?_
        refine r_goto C 28 rfl (by decide) ?_
        refine r_eqL ?_ (ih (k1 + 1) (s + 1) M2 (wkR Y R1) B bb (by omega) hFr3 (by omega) (by omega) hOB aB2 hR2 hnp2 a2 (by omega) he)
        first | rfl | (simp only [sm, add3, nI_add, Int32.add_zero, Int32.zero_add]; rfl)
      have h3 : s + 1 = rd := by
        have e := congrArg Int32.toInt h3
        rw [nI_toInt (by omega), nI_toInt (by omega)] at e
        omega
      refine r_aload_n C 0 rfl rfl rfl rfl ?_
      refine r_getv C rfl f_X1_19 (by assumption) rfl ?_
      refine r_aload_n C 0 rfl rfl rfl rfl ?_
      refine r_getv C rfl f_X1_23 (by assumption) rfl ?_
      refine v1_g C rfl mfX8_standsLike lk_X1_68 (by assumption) (p_like hB hB2 (b' := bb) hO2 a2 aB2) ?_
      rintro v M3 ⟨rfl, z, rfl, hz⟩
      refine r_if_eq C 83 rfl (by decide) (fun h4 => ?_) (fun h4 => ?_)
      · refine r_aload_n C 0 rfl rfl rfl rfl ?_
        refine r_getv C rfl f_X1_23 (by assumption) rfl ?_
        refine r_aload_n C 0 rfl rfl rfl rfl ?_
        refine r_getv C rfl f_X1_19 (by assumption) rfl ?_
        refine v1_g C rfl mfX8_become lk_X1_26 (by assumption) (p_become hB2 hB (by omega) hO2 a2) ?_
        rintro v M4 ⟨rfl, a4, hFr4⟩
        refine r_ic (v := nI 0) C rfl (by decide) ?_
        refine r_istore_n C 3 rfl rfl (by exact Nat.le_of_ble_eq_true rfl) ?_
        refine r_iinc (c := nI 1) C rfl rfl (by decide) ?_
        refine r_goto C 28 rfl (by decide) ?_
        refine r_eqL ?_ (ih (k1 + 1) 0 M4 (wkR Y R1) (wkR Y R1) (b + k1) (by omega) (hFr3.trans hFr4 (fun _ q => q) (fun k q => by simp only [FS, WS, TS] at q ⊢; omega)) (by omega) (by omega) (by rw [show b + k1 = bb + s + 1 by omega]; exact hO2) a4 rfl (fun i h5 h6 => by omega) (by rw [hFr4.row w0 (fun k h1 h2 q => by simp only [WS] at q; omega)]; exact a2) (by omega) he)
        first | rfl | (simp only [sm, add3, nI_add, Int32.add_zero, Int32.zero_add]; rfl)
      · have hl := hz (bI_1 h4)
        rw [hR2, h3] at hl
        have hL := lkb_round hF hOB hrd (by omega) hl
        refine r_ic (v := (-1)) C rfl (by decide) ?_
        refine q_iret C hQ rfl rfl rfl ⟨rfl, rfl, ?_, hFr3⟩
        rw [he, hR2, h3, lk_paste hF hL (b := bb + rd) (ok_wkN hF hOB (by omega)) hOB (by omega) (by omega), paste_none (fun i h5 h6 => paste_round hF hOB (by omega) hL (by rw [← h3]; exact hnp2) h5 (by omega))]
  refine r_ic (v := nI 1) C rfl (by decide) ?_
  refine r_aload_n C 0 rfl rfl rfl rfl ?_
  refine r_getv C rfl f_X1_9 (by assumption) rfl ?_
  refine r_geti C rfl f_X1_53 (by assumption) rfl ?_
  rw [hY.2.2.2.1]
  refine r_max C rfl lk_X1_58 ?_
  refine r_top (nI rd) ?_ ?_
  · rw [hrd]
    by_cases q : 1 < Y.wk
    · rw [if_pos ((nI_ltI (by omega) (by omega)).mpr q), show max 1 Y.wk = Y.wk by omega]
    · rw [if_neg (fun z => q ((nI_ltI (by omega) (by omega)).mp z)), show max 1 Y.wk = 1 by omega]
  refine r_istore_n C 2 rfl rfl (by exact Nat.le_of_ble_eq_true rfl) ?_
  refine r_ic (v := nI 0) C rfl (by decide) ?_
  refine r_istore_n C 3 rfl rfl (by exact Nat.le_of_ble_eq_true rfl) ?_
  refine r_aload_n C 0 rfl rfl rfl rfl ?_
  refine r_getv C rfl f_X1_23 (by assumption) rfl ?_
  refine r_aload_n C 0 rfl rfl rfl rfl ?_
  refine r_getv C rfl f_X1_19 (by assumption) rfl ?_
  refine v1_g C rfl mfX8_become lk_X1_26 (by assumption) (p_become hB2 hB (by omega) hO a) ?_
  rintro v M1 ⟨rfl, a1, hFr1⟩
  refine r_ic (v := nI 1) C rfl (by decide) ?_
  refine r_istore C rfl (by exact Nat.le_of_ble_eq_true rfl) ?_
  exact loop n 1 0 M1 R R b (by omega) (hFr1.mono (fun k q => by simp only [FS, WS, TS] at q ⊢; omega)) (by omega) (by omega) hO a1 rfl (fun i h5 h6 => by omega) (by rw [hFr1.row w0 (fun k h1 h2 q => by simp only [WS] at q; omega)]; exact a) (by omega) hans.symm
theorem put_trait {M : MM} (w j : Nat) (v : Int32) (hj : j < 13) (a : Ag (wrow M w) R) (h0 : j ≠ 0) (h1 : j ≠ 1) : Ag (wrow (up M w (j + 4) v) w) (upd R j v) ∧ Fr (WS w) M (up M w (j + 4) v) := by
  refine ⟨?_, fun k hk => up_row M v (by omega)⟩
  have e : wrow (up M w (j + 4) v) w = upd (wrow M w) j v := by
    funext i
    simp only [wrow]
    by_cases q : i < 13
    · rw [if_pos q]
      by_cases e : i = j
      · rw [e, up_same, upd_self]
      · rw [up_ne _ _ (by omega), upd_other _ _ e]
        simp only [wrow]
        rw [if_pos q]
    · rw [if_neg q, up_row _ _ (by omega), up_row _ _ (by omega), up_row _ _ (by omega), upd_other _ _ (by omega)]
      simp only [wrow]
      rw [if_neg q]
  rw [e]
  exact ag_up a v h0 h1
theorem f_shoes (hFo : FA Sh N fo yd t w0) (hA : WA Sh N w yd) (hB : WA Sh N w0 yd) (hB2 : WA Sh N (w0 + 4) yd) (hT : TA Sh N t yd) (hd1 : w + 4 ≤ t) (hd2 : t + 3 ≤ w0) (hY : YC M yd Y) (hF : Y.Fine) (hO : OK b R) (hb : b < 2 ^ 29) (a : Ag (wrow M w) R) {x : Int32} (n : Nat) (hx : x = nI n) (hn : n ≤ 520) :
    Con E mX1_fewestShoes 7 0 0 [.ref fo, .ref w, .int x] Sh N G M (PR Sh N (fun v M' => v = some (.int (lnS (fun k => pasteS Y n 1 (upd R 3 (nI k))) nI 0 4)) ∧ Fr (FS w0 t) M M')) nox := by
  subst hx
  obtain ⟨b0, -, -, -, -, b5⟩ := id hB
  have hFo' := hFo
  have t3 := hT.2.2.2
  unfold FA at hFo
  refine Con.ofQ (by decide +kernel) (by simp [Value.category]) (Nat.le_of_ble_eq_true rfl) (fun k C0 Q hQ => ?_)
  have C : CK k E mX1_fewestShoes kdX1_fewestShoes 7 0 0 := ⟨C0, kdX1_fewestShoes_ok⟩
  generalize hans : lnS (fun k => pasteS Y n 1 (upd R 3 (nI k))) nI 0 4 = ans at hQ
  have loop : ∀ (m i : Nat) (M1 : MM), i + m = 4 → Fr (FS w0 t) M M1 → ans = lnS (fun k => pasteS Y n 1 (upd R 3 (nI k))) nI i m → PT k E Q 0 0 Sh N G M1 2 [some (.ref fo), some (.ref w), some (.int (nI n)), some (.int (nI i))] [] := by
    intro m
    induction m with
    | zero =>
      intro i M1 hi hFr he
      refine r_iload_n C 3 rfl rfl rfl ?_
      refine r_ic (v := nI 3) C rfl (by decide) ?_
      refine r_icmp_gt C 40 rfl (by decide) (fun h => ?_) (fun h => absurd ((nI_ltI (by omega) (by omega)).mpr (by omega)) h)
      refine r_ic (v := (-1)) C rfl (by decide) ?_
      exact q_iret C hQ rfl rfl rfl ⟨rfl, rfl, by rw [he]; rfl, hFr⟩
    | succ m ih =>
      intro i M1 hi hFr he
      rw [lnS] at he
      have a1 : Ag (wrow M1 w) R := by rw [hFr.row w (fun k h1 h2 q => by simp only [FS, TS] at q; omega)]; exact a
      refine r_iload_n C 3 rfl rfl rfl ?_
      refine r_ic (v := nI 3) C rfl (by decide) ?_
      refine r_icmp_gt C 40 rfl (by decide) (fun h => ?_) (fun h => ?_)
      · have h := lt_nI (by omega) (by omega) h
        omega
      refine r_aload_n C 0 rfl rfl rfl rfl ?_
      refine r_getv C rfl f_X1_19 (by assumption) rfl ?_
      refine r_aload_n C 1 rfl rfl rfl rfl ?_
      refine v1_g C rfl mfX8_become lk_X1_26 (by assumption) (p_become hB hA (by omega) hO a1) ?_
      rintro v M2 ⟨rfl, a2, hFr2⟩
      refine r_aload_n C 0 rfl rfl rfl rfl ?_
      refine r_getv C rfl f_X1_19 (by assumption) rfl ?_
      refine r_iload_n C 3 rfl rfl rfl ?_
      refine r_puti C rfl f_X1_42 (by assumption) rfl rfl rfl ?_
      obtain ⟨a3, hFr3⟩ := put_trait w0 3 (nI i) (by decide) a2 (by decide) (by decide)
      obtain ⟨M3, hM3⟩ : ∃ M3, M3 = up M2 w0 (3 + 4) (nI i) := ⟨_, rfl⟩
      have eM3 : up M2 w0 7 (nI i) = M3 := hM3.symm
      rw [eM3]
      rw [← hM3] at a3 hFr3
      have hFr4 : Fr (FS w0 t) M M3 := (hFr.trans hFr2 (U := FS w0 t) (fun _ q => q) (fun k q => by simp only [FS, WS, TS] at q ⊢; omega)).trans hFr3 (fun _ q => q) (fun k q => by simp only [FS, WS, TS] at q ⊢; omega)
      refine r_aload_n C 0 rfl rfl rfl rfl ?_
      refine r_iload_n C 2 rfl rfl rfl ?_
      refine v1_g C rfl mfX1_firstPaste lk_X1_46 (by assumption) (f_paste hFo' hB hB2 hT hd2 (hY.cong (hFr4 _ (by omega)) (hFr4 _ (by omega))) hF (ok_up3 hO (by omega)) hb a3 n rfl hn) ?_
      rintro v M4 ⟨rfl, hFr5⟩
      have hFr6 : Fr (FS w0 t) M M4 := hFr4.trans hFr5 (fun _ q => q) (fun _ q => q)
      refine r_ic (v := (-1)) C rfl (by decide) ?_
      refine r_icmp_ne C 34 rfl (by decide) (fun h2 => ?_) (fun h2 => ?_)
      · rw [if_neg h2] at he
        refine r_iinc (c := nI 1) C rfl rfl (by decide) ?_
        refine r_goto C 2 rfl (by decide) ?_
        refine r_eqL ?_ (ih (i + 1) M4 (by omega) hFr6 he)
        first | rfl | (simp only [sm, add3, nI_add, Int32.add_zero, Int32.zero_add]; rfl)
      · rw [if_pos h2] at he
        refine r_iload_n C 3 rfl rfl rfl ?_
        exact q_iret C hQ rfl rfl rfl ⟨rfl, rfl, by rw [he], hFr6⟩
  refine r_ic (v := nI 0) C rfl (by decide) ?_
  refine r_istore_n C 3 rfl rfl (by exact Nat.le_of_ble_eq_true rfl) ?_
  exact loop 4 0 M (by omega) Fr.rfl hans.symm
theorem f_outer (hFo : FA Sh N fo yd t w0) (hA : WA Sh N w yd) (hB : WA Sh N w0 yd) (hB2 : WA Sh N (w0 + 4) yd) (hT : TA Sh N t yd) (hd1 : w + 4 ≤ t) (hd2 : t + 3 ≤ w0) (hY : YC M yd Y) (hF : Y.Fine) (hO : OK b R) (hb : b < 2 ^ 29) (a : Ag (wrow M w) R) {x : Int32} (n : Nat) (hx : x = nI n) (hn : n ≤ 520) :
    Con E mX1_leastOuter 7 0 0 [.ref fo, .ref w, .int x] Sh N G M (PR Sh N (fun v M' => v = some (.int (lnS (fun k => pasteS Y n 1 (upd R 5 (nI (10 * k)))) (fun k => nI (10 * k)) 0 11)) ∧ Fr (FS w0 t) M M')) nox := by
  subst hx
  obtain ⟨b0, -, -, -, -, b5⟩ := id hB
  have hFo' := hFo
  have t3 := hT.2.2.2
  unfold FA at hFo
  refine Con.ofQ (by decide +kernel) (by simp [Value.category]) (Nat.le_of_ble_eq_true rfl) (fun k C0 Q hQ => ?_)
  have C : CK k E mX1_leastOuter kdX1_leastOuter 7 0 0 := ⟨C0, kdX1_leastOuter_ok⟩
  generalize hans : lnS (fun k => pasteS Y n 1 (upd R 5 (nI (10 * k)))) (fun k => nI (10 * k)) 0 11 = ans at hQ
  have loop : ∀ (m i : Nat) (M1 : MM), i + m = 11 → Fr (FS w0 t) M M1 → ans = lnS (fun k => pasteS Y n 1 (upd R 5 (nI (10 * k)))) (fun k => nI (10 * k)) i m → PT k E Q 0 0 Sh N G M1 2 [some (.ref fo), some (.ref w), some (.int (nI n)), some (.int (nI (10 * i)))] [] := by
    intro m
    induction m with
    | zero =>
      intro i M1 hi hFr he
      refine r_iload_n C 3 rfl rfl rfl ?_
      refine r_bi (v := nI 100) C rfl (by decide) ?_
      refine r_icmp_gt C 41 rfl (by decide) (fun h => ?_) (fun h => absurd ((nI_ltI (by omega) (by omega)).mpr (by omega)) h)
      refine r_ic (v := (-1)) C rfl (by decide) ?_
      exact q_iret C hQ rfl rfl rfl ⟨rfl, rfl, by rw [he]; rfl, hFr⟩
    | succ m ih =>
      intro i M1 hi hFr he
      rw [lnS] at he
      have a1 : Ag (wrow M1 w) R := by rw [hFr.row w (fun k h1 h2 q => by simp only [FS, TS] at q; omega)]; exact a
      refine r_iload_n C 3 rfl rfl rfl ?_
      refine r_bi (v := nI 100) C rfl (by decide) ?_
      refine r_icmp_gt C 41 rfl (by decide) (fun h => ?_) (fun h => ?_)
      · have h := lt_nI (by omega) (by omega) h
        omega
      refine r_aload_n C 0 rfl rfl rfl rfl ?_
      refine r_getv C rfl f_X1_19 (by assumption) rfl ?_
      refine r_aload_n C 1 rfl rfl rfl rfl ?_
      refine v1_g C rfl mfX8_become lk_X1_26 (by assumption) (p_become hB hA (by omega) hO a1) ?_
      rintro v M2 ⟨rfl, a2, hFr2⟩
      refine r_aload_n C 0 rfl rfl rfl rfl ?_
      refine r_getv C rfl f_X1_19 (by assumption) rfl ?_
      refine r_iload_n C 3 rfl rfl rfl ?_
      refine r_puti C rfl f_X1_50 (by assumption) rfl rfl rfl ?_
      obtain ⟨a3, hFr3⟩ := put_trait w0 5 (nI (10 * i)) (by decide) a2 (by decide) (by decide)
      obtain ⟨M3, hM3⟩ : ∃ M3, M3 = up M2 w0 (5 + 4) (nI (10 * i)) := ⟨_, rfl⟩
      have eM3 : up M2 w0 9 (nI (10 * i)) = M3 := hM3.symm
      rw [eM3]
      rw [← hM3] at a3 hFr3
      have hFr4 : Fr (FS w0 t) M M3 := (hFr.trans hFr2 (U := FS w0 t) (fun _ q => q) (fun k q => by simp only [FS, WS, TS] at q ⊢; omega)).trans hFr3 (fun _ q => q) (fun k q => by simp only [FS, WS, TS] at q ⊢; omega)
      refine r_aload_n C 0 rfl rfl rfl rfl ?_
      refine r_iload_n C 2 rfl rfl rfl ?_
      refine v1_g C rfl mfX1_firstPaste lk_X1_46 (by assumption) (f_paste hFo' hB hB2 hT hd2 (hY.cong (hFr4 _ (by omega)) (hFr4 _ (by omega))) hF (ok_up5 hO (by omega)) hb a3 n rfl hn) ?_
      rintro v M4 ⟨rfl, hFr5⟩
      have hFr6 : Fr (FS w0 t) M M4 := hFr4.trans hFr5 (fun _ q => q) (fun _ q => q)
      refine r_ic (v := (-1)) C rfl (by decide) ?_
      refine r_icmp_ne C 35 rfl (by decide) (fun h2 => ?_) (fun h2 => ?_)
      · rw [if_neg h2] at he
        refine r_iinc (c := nI 10) C rfl rfl (by decide) ?_
        refine r_goto C 2 rfl (by decide) ?_
        refine r_eqL ?_ (ih (i + 1) M4 (by omega) hFr6 he)
        rw [nI_add, show 10 * (i + 1) = 10 * i + 10 by omega]
        rfl
      · rw [if_pos h2] at he
        refine r_iload_n C 3 rfl rfl rfl ?_
        exact q_iret C hQ rfl rfl rfl ⟨rfl, rfl, by rw [he], hFr6⟩
  refine r_ic (v := nI 0) C rfl (by decide) ?_
  refine r_istore_n C 3 rfl rfl (by exact Nat.le_of_ble_eq_true rfl) ?_
  exact loop 11 0 M (by omega) Fr.rfl hans.symm
theorem f_foot (hFo : FA Sh N fo yd t w0) (hA : WA Sh N w yd) (hB : WA Sh N w0 yd) (hB2 : WA Sh N (w0 + 4) yd) (hT : TA Sh N t yd) (hd1 : w + 4 ≤ t) (hd2 : t + 3 ≤ w0) (hY : YC M yd Y) (hF : Y.Fine) (hO : OK b R) (hb : b < 2 ^ 29) (a : Ag (wrow M w) R) {x : Int32} (n : Nat) (hx : x = nI n) (hn : n ≤ 520) :
    Con E mX1_footPaste 7 0 0 [.ref fo, .ref w, .int x] Sh N G M (PR Sh N (fun v M' => v = some (.int (pasteS Y n 1 R)) ∧ Fr (FS w0 t) M M')) nox := by
  subst hx
  obtain ⟨b0, -, -, -, -, b5⟩ := id hB
  have hFo' := hFo
  have t3 := hT.2.2.2
  unfold FA at hFo
  refine Con.ofQ (by decide +kernel) (by simp [Value.category]) (Nat.le_of_ble_eq_true rfl) (fun k C0 Q hQ => ?_)
  have C : CK k E mX1_footPaste kdX1_footPaste 7 0 0 := ⟨C0, kdX1_footPaste_ok⟩
  refine r_aload_n C 0 rfl rfl rfl rfl ?_
  refine r_getv C rfl f_X1_19 (by assumption) rfl ?_
  refine r_aload_n C 1 rfl rfl rfl rfl ?_
  refine v1_g C rfl mfX8_become lk_X1_26 (by assumption) (p_become hB hA (by omega) hO a) ?_
  rintro v M1 ⟨rfl, a1, hFr1⟩
  refine r_aload_n C 0 rfl rfl rfl rfl ?_
  refine r_iload_n C 2 rfl rfl rfl ?_
  refine v1_g C rfl mfX1_firstPaste lk_X1_46 (by assumption) (f_paste hFo' hB hB2 hT hd2 (hY.cong (hFr1 _ (by omega)) (hFr1 _ (by omega))) hF hO hb a1 n rfl hn) ?_
  rintro v M2 ⟨rfl, hFr2⟩
  exact q_iret C hQ rfl rfl rfl ⟨rfl, rfl, rfl, hFr1.trans hFr2 (fun k q => by simp only [FS, WS, TS] at q ⊢; omega) (fun _ q => q)⟩
end LINE
