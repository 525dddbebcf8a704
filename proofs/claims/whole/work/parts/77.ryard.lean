section RYARD
variable {E : VE} {Sh : Nat → SE} {N : Nat} {G : Bool} {M M' M'' M0 : MM} {o n b : Nat} {β : Nat → Int32} {σ σ' : RdS} {D : DR} {x x' : ST}
/-- the yard that a text tells -/
def ydOf (D : DR) : YD := (nI 10 + nI 2 * nI D.2.1.2.2, nI 40 + nI 4 * nI D.2.1.1 + nI 6 * nI D.2.1.2.2, nI 3 * nI D.2.1.1 - nI D.2.1.2.1 - nI 2 * nI D.2.1.2.2, D.2.2.2.1, fun k => nI (D.2.2.2.2 (3 * k)), fun k => nI (D.2.2.2.2 (3 * k + 1)), fun k => decide (nI (D.2.2.2.2 (3 * k + 2)) = nI 1))
/-- the tape's bytes -/
def bet (x : ST) : Nat → Int32 := fun i => x.tp i &&& nI 255
theorem bet_m1 (x : ST) (i : Nat) : bet x i ≠ -1 := by
  intro h
  have h1 : (x.tp i &&& nI 255) &&& nI 256 = (-1 : Int32) &&& nI 256 := by rw [← h]; rfl
  rw [Int32.and_assoc, show nI 255 &&& nI 256 = 0 by decide, Int32.and_zero] at h1
  exact absurd h1 (by decide)
/-- the state behind a text without a fault; of the walls that it didn't tell nothing is said -/
def YardNew (x : ST) (D : DR) (x' : ST) : Prop := x'.wn = D.2.2.1.1 ∧ x'.ye = ydOf D ∧ (∀ i, i < D.2.2.1.1 → x'.Rw i = frow D.2.2.1.2 i) ∧ x'.im = false ∧ x'.st = x.st ∧ x'.pl = none ∧ x'.od = none ∧ x'.br = (0, -1, -1) ∧ x'.hn = 0 ∧ (∀ g, g < 4 → x'.Gs g = none) ∧ x'.tl = 0 ∧ x'.fp = -1
def yBad (x : ST) (s : RdS) : ST := (x.setT 0 x.tp (nI s.2.1)).setSt (upd x.st 0 (x.st 0 + nI 1))
/-- what 'yard' answers; tr, wk: what stood in the draft's rows -/
def YardTo (x : ST) (p : Int32) (tr wk : Nat → Nat) (cd : Nat) (ans : Int32) (x' : ST) : Prop :=
  if inI p 0 (nI x.tl) = false then cd = 1 ∧ ans = 0 ∧ x' = x else
    cd = 0 ∧ ans = nI (readF (bet x) p.toNatClampNeg tr wk).1.1 ∧ if (readF (bet x) p.toNatClampNeg tr wk).1.1 = 0 then YardNew x (readF (bet x) p.toNatClampNeg tr wk).2 x' else x' = yBad x (readF (bet x) p.toNatClampNeg tr wk).1
abbrev JY (j : Nat) : Prop := j = 0 ∨ j = 5 ∨ (13 ≤ j ∧ j ≤ 22)
/-- only what reading may write has changed -/
def FRy (o : Nat) (M M' : MM) : Prop := FRM o (fun c => o + 4 ≤ c ∧ c ≤ o + 8) (fun r => 4 ≤ r ∧ r < 8) JY M M' ∧ (∀ i, i < 3 → M' (o + 4) i = M (o + 4) i) ∧ (∀ k, k < 30 → M' (o + 5) k = M (o + 5) k ∧ M' (o + 6) k = M (o + 6) k ∧ M' (o + 7) k = M (o + 7) k) ∧ M' (o + 8) 0 = M (o + 8) 0
theorem FRy.rd (h : FRy o M M') (h' : FRd o M' M'') : FRy o M M'' := by
  obtain ⟨h1, h2, h3, h4⟩ := h
  obtain ⟨g1, g2, g3, g4, g5, g6⟩ := h'
  refine ⟨⟨fun c q1 q2 q3 => (g1 c q1 q2 q3).trans (h1.1 c q1 q2 q3), fun r q1 q2 j q3 => (g2 r q1 q2 j q3).trans (h1.2.1 r q1 q2 j q3), fun j q => (g3 j (by simp only [JY] at q; omega) (by simp only [JY] at q; simp only [JB]; omega)).trans (h1.2.2 j q)⟩, fun i hi => (g4 i hi).trans (h2 i hi), fun k hk => ⟨(g5 k hk).1.trans (h3 k hk).1, (g5 k hk).2.1.trans (h3 k hk).2.1, (g5 k hk).2.2.trans (h3 k hk).2.2⟩, g6.trans h4⟩
theorem RA.keepY {wn : Nat} {Y : YD} {Rw : Nat → Row} (h : RA M o wn Y Rw) (hF : FRy o M M') (hw : wn ≤ 4) (hm : ∀ i, i < wn → mno (Rw i) ≤ 24) (hf : Y.Fine) : RA M' o wn Y Rw := by
  obtain ⟨h1, ⟨y1, y2, y3, y4, y5⟩, h3⟩ := h
  refine ⟨(hF.1.2.2 4 (by decide)).trans h1, ⟨?_, ?_, ?_, hF.2.2.2.trans y4, fun k hk => ?_⟩, fun i hi => (row_ag (hF.1.2.1 i (by omega) (by omega)) (by rw [← (h3 i hi).mn]; exact hm i hi)).trans (h3 i hi)⟩
  · simp only [grn]; rw [hF.2.1 2 (by decide)]; exact y1
  · simp only [ful]; rw [hF.2.1 0 (by decide), hF.2.1 2 (by decide)]; exact y2
  · simp only [shr]; rw [hF.2.1 0 (by decide), hF.2.1 1 (by decide), hF.2.1 2 (by decide)]; exact y3
  · have h30 := hf.2.1
    obtain ⟨q1, q2, q3⟩ := hF.2.2.1 k (by omega)
    rw [q1, q2, q3]
    exact y5 k hk
theorem lineH_c {y : RdS × DR} (h : y.1.1 < 100) : (lineH β n y).1.1 < 100 := by
  unfold lineH rdE rdW rdK
  split
  · split
    · exact refu_c (by decide) h
    · exact takeN_c 0 99 (takeN_c 0 99 (takeN_c 0 99 h))
  · split
    · split
      · exact refu_c (by decide) h
      · exact takeO_c _ 100 100 (takeO_c _ 100 100 (takeW_c _ (takeO_c _ 9 0 (takeO_c _ 20 0 (takeN_c 1 6 h)))))
    · split
      · split
        · exact refu_c (by decide) h
        · exact takeW_c _ (takeN_c 0 99 (takeN_c 0 99 h))
      · exact refu_c (by decide) h
theorem lineF_c {y : RdS × DR} (h : y.1.1 < 100) : (lineF β n y).1.1 < 100 := by
  have h1 := lineH_c (β := β) (n := n) h
  show (lineT β n (lineH β n y).1).1 < 100
  unfold lineT
  split
  · exact h1
  · exact refu_c (by decide) h1
theorem R_yard (hM : MO Sh N o) (hV : VI b x) (hR : RI M o x) (p : Int32) {tr wk : Nat → Nat} {cd : Nat} {ans : Int32} (hDV : DV (false, (30, 50, 5), (0, tr), (0, wk))) (hY : YardTo x p tr wk cd ans x') : Con E mX12_yard 10 0 0 [.ref o, .int p] Sh N G M (PR Sh N (RQ M o ans cd x')) nox := by
  have h0 := hM.1
  have h4 : At Sh N (o + 4) (arE 0 6) := hM.ar 3 rfl
  have h5 : At Sh N (o + 5) (arE 0 60) := hM.ar 4 rfl
  have h6 : At Sh N (o + 6) (arE 0 60) := hM.ar 5 rfl
  have h7 : At Sh N (o + 7) (arE 0 60) := hM.ar 6 rfl
  have h8 : At Sh N (o + 8) (arE 0 2) := hM.ar 7 rfl
  have h9 : At Sh N (o + 9) (arE 0 4) := hM.ar 8 rfl
  have h19 : At Sh N (o + 19) (arE 2 4) := hM.ar 18 rfl
  have htl : x.tl ≤ 700 := hV.2.2.2.2.2.2.2.2
  obtain ⟨r1, r2, r3, r4, r5, r6, r7, r8, r9⟩ := id hR
  refine Con.ofQ (by decide +kernel) (by simp [Value.category]) (Nat.le_of_ble_eq_true rfl) (fun k C0 Q hQ => ?_)
  have C : CK k E mX12_yard kdX12_yard 10 0 0 := ⟨C0, kdX12_yard_ok⟩
  refine r_aload_n C 0 rfl rfl rfl rfl ?_
  refine r_ic (v := nI 0) C rfl (by decide) ?_
  refine r_puti C rfl f_X12_90 (by assumption) rfl rfl rfl ?_
  have bad : inI p 0 (nI x.tl) = false → PT k E Q 0 0 Sh N G (up M o 0 (nI 0)) 17 [some (.ref o), some (.int p), none, none] [] := by
    intro h
    unfold YardTo at hY
    rw [if_pos h] at hY
    obtain ⟨e1, e2, e3⟩ := hY
    refine r_aload_n C 0 rfl rfl rfl rfl ?_
    refine r_ic (v := nI 1) C rfl (by decide) ?_
    refine v1_r C rfl mfX12_fail lk_X12_208 (by assumption) (c_fail hM (nI 1)) ?_
    exact q_iret C hQ rfl rfl rfl ⟨rfl, rfl, by rw [e2]; rfl, by rw [e1, up_same], by rw [e3]; exact (hR.c0 hV _).c0 hV _, fun c hc => by rw [up_row _ _ (by omega), up_row _ _ (by omega)]⟩
  refine r_iload_n C 1 rfl rfl rfl ?_
  refine r_if_lt C 17 rfl (by decide) (fun h => bad (inI_lo h)) (fun hp0 => ?_)
  refine r_iload_n C 1 rfl rfl rfl ?_
  refine r_aload_n C 0 rfl rfl rfl rfl ?_
  refine r_geti C rfl f_X12_100 (by assumption) rfl ?_
  rw [up_ne _ _ (by omega), r9.1]
  refine r_icmp_le C 23 rfl (by decide) (fun hp1 => ?_) (fun h => bad (inI_hi (Int32.not_le.mp h)))
  have hin : inI p 0 (nI x.tl) = true := decide_eq_true ⟨Int32.not_lt.mp hp0, hp1⟩
  obtain ⟨n, -, hn, rfl⟩ := (inI_iff (a := 0) (by decide) (by omega)).mp hin
  unfold YardTo at hY
  rw [if_neg (by rw [show inI (nI n) 0 (nI x.tl) = true from hin]; decide), nI_clamp (by omega)] at hY
  obtain ⟨e1, e2, e3⟩ := hY
  subst e1
  obtain ⟨D0, hD0⟩ : ∃ D0 : DR, D0 = (false, (30, 50, 5), (0, tr), (0, wk)) := ⟨_, rfl⟩
  rw [← hD0] at hDV
  obtain ⟨fx, hfx⟩ : ∃ fx, fx = readF (bet x) n tr wk := ⟨_, rfl⟩
  rw [← hfx] at e2 e3
  refine r_aload_n C 0 rfl rfl rfl rfl ?_
  refine r_ic (v := nI 0) C rfl (by decide) ?_
  refine r_puti C rfl f_X12_100 (by assumption) rfl rfl rfl ?_
  refine r_aload_n C 0 rfl rfl rfl rfl ?_
  refine r_iload_n C 1 rfl rfl rfl ?_
  refine r_puti C rfl f_X12_103 (by assumption) rfl rfl rfl ?_
  refine r_aload_n C 0 rfl rfl rfl rfl ?_
  refine r_ic (v := nI 0) C rfl (by decide) ?_
  refine r_puti C rfl f_X12_106 (by assumption) rfl rfl rfl ?_
  refine r_aload_n C 0 rfl rfl rfl rfl ?_
  refine r_ic (v := nI 0) C rfl (by decide) ?_
  refine r_puti C rfl f_X12_139 (by assumption) rfl rfl rfl ?_
  refine r_aload_n C 0 rfl rfl rfl rfl ?_
  refine r_ic (v := (-1)) C rfl (by decide) ?_
  refine r_puti C rfl f_X12_40 (by assumption) rfl rfl rfl ?_
  refine r_aload_n C 0 rfl rfl rfl rfl ?_
  refine r_ic (v := nI 0) C rfl (by decide) ?_
  refine r_puti C rfl f_X12_172 (by assumption) rfl rfl rfl ?_
  refine r_aload_n C 0 rfl rfl rfl rfl ?_
  refine r_getv C rfl f_X12_31 (by assumption) rfl ?_
  refine r_ic (v := nI 1) C rfl (by decide) ?_
  refine r_ic (v := nI 0) C rfl (by decide) ?_
  refine r_iast C rfl (by assumption) (1) rfl (by omega) (by decide) ?_
  refine r_aload_n C 0 rfl rfl rfl rfl ?_
  refine r_getv C rfl f_X12_19 (by assumption) rfl ?_
  refine r_ic (v := nI 3) C rfl (by decide) ?_
  refine r_bi (v := nI 30) C rfl (by decide) ?_
  refine r_iast C rfl (by assumption) (3) rfl (by omega) (by decide) ?_
  refine r_aload_n C 0 rfl rfl rfl rfl ?_
  refine r_getv C rfl f_X12_19 (by assumption) rfl ?_
  refine r_ic (v := nI 4) C rfl (by decide) ?_
  refine r_bi (v := nI 50) C rfl (by decide) ?_
  refine r_iast C rfl (by assumption) (4) rfl (by omega) (by decide) ?_
  refine r_aload_n C 0 rfl rfl rfl rfl ?_
  refine r_getv C rfl f_X12_19 (by assumption) rfl ?_
  refine r_ic (v := nI 5) C rfl (by decide) ?_
  refine r_ic (v := nI 5) C rfl (by decide) ?_
  refine r_iast C rfl (by assumption) (5) rfl (by omega) (by decide) ?_
  obtain ⟨M1, hM1⟩ : ∃ M1, M1 = up (up (up (up (up (up (up (up (up (up (up M o 0 (nI 0)) o 13 (nI 0)) o 15 (nI n)) o 14 (nI 0)) o 20 (nI 0)) o 22 (-1)) o 5 (nI 0)) (o + 8) 1 (nI 0)) (o + 4) 3 (nI 30)) (o + 4) 4 (nI 50)) (o + 4) 5 (nI 5) := ⟨_, rfl⟩
  refine r_eqM (M' := M1) hM1.symm ?_
  have f0 : M1 o 0 = nI 0 := by simp [hM1, up]
  have f13 : M1 o 13 = nI 0 := by simp [hM1, up]
  have f15 : M1 o 15 = nI n := by simp [hM1, up]
  have f14 : M1 o 14 = nI 0 := by simp [hM1, up]
  have f20 : M1 o 20 = nI 0 := by simp [hM1, up]
  have f22 : M1 o 22 = -1 := by simp [hM1, up]
  have f5 : M1 o 5 = nI 0 := by simp [hM1, up]
  have f81 : M1 (o + 8) 1 = nI 0 := by simp [hM1, up]
  have f43 : M1 (o + 4) 3 = nI 30 := by simp [hM1, up]
  have f44 : M1 (o + 4) 4 = nI 50 := by simp [hM1, up]
  have f45 : M1 (o + 4) 5 = nI 5 := by simp [hM1, up]
  have cel1 : ∀ c, c ≠ o → c ≠ o + 4 → c ≠ o + 8 → M1 c = M c := by
    intro c q1 q2 q3
    rw [hM1, up_row _ _ q2, up_row _ _ q2, up_row _ _ q2, up_row _ _ q3, up_row _ _ q1, up_row _ _ q1, up_row _ _ q1, up_row _ _ q1, up_row _ _ q1, up_row _ _ q1, up_row _ _ q1]
  have hFy : FRy o M M1 := by
    refine ⟨⟨fun c q1 q2 q3 => cel1 c q1 (by omega) (by omega), fun r _ _ j _ => by rw [mrow_cell (cel1 _ (by omega) (by omega) (by omega))], fun j q => ?_⟩, fun i hi => ?_, fun k _ => by rw [cel1 _ (by omega) (by omega) (by omega), cel1 _ (by omega) (by omega) (by omega), cel1 _ (by omega) (by omega) (by omega)]; exact ⟨rfl, rfl, rfl⟩, ?_⟩
    · simp only [JY] at q
      rw [hM1, up_row _ _ (by omega), up_row _ _ (by omega), up_row _ _ (by omega), up_row _ _ (by omega), up_ne _ _ (by omega), up_ne _ _ (by omega), up_ne _ _ (by omega), up_ne _ _ (by omega), up_ne _ _ (by omega), up_ne _ _ (by omega), up_ne _ _ (by omega)]
    · rw [hM1, up_ne _ _ (by omega), up_ne _ _ (by omega), up_ne _ _ (by omega), up_row _ _ (by omega), up_row _ _ (by omega), up_row _ _ (by omega), up_row _ _ (by omega), up_row _ _ (by omega), up_row _ _ (by omega), up_row _ _ (by omega), up_row _ _ (by omega)]
    · rw [hM1, up_row _ _ (by omega), up_row _ _ (by omega), up_row _ _ (by omega), up_ne _ _ (by omega), up_row _ _ (by omega), up_row _ _ (by omega), up_row _ _ (by omega), up_row _ _ (by omega), up_row _ _ (by omega), up_row _ _ (by omega), up_row _ _ (by omega)]
  have hT1 : RTx M1 o n (bet x) := ⟨by omega, f15, fun i hi => by rw [cel1 _ (by omega) (by omega) (by omega)]; exact r9.2.1 i (by omega), fun i _ => bet_m1 x i⟩
  have hR1 : RDr M1 o D0 := by
    rw [hD0]
    exact ⟨f5, f81, ⟨f43, f44, f45⟩, fun i hi => absurd hi (Nat.not_lt_zero i), fun k hk => absurd hk (Nat.not_lt_zero k)⟩
  refine r_aload_n C 0 rfl rfl rfl rfl ?_
  refine v0_g C rfl mfX12_stepOn lk_X12_159 (by assumption) (m_stepOn hM hT1 (σ := (0, 0, 0, 0, 0)) f14 (Nat.zero_le _) f20 (fun z => absurd rfl z)) ?_
  rintro z M2 ⟨rfl, hF2, hP2⟩
  have hF2 := JT_JB hF2
  have hv2 : PV (bet x) n (adv (bet x) n (0, 0, 0, 0, 0)) := adv_v (Nat.zero_le _)
  have k0 : ∀ M' : MM, FRd o M1 M' → M' o 0 = nI 0 := fun M' h => (h.2.2.1 0 (by decide) (by decide)).trans f0
  have low : ∀ M' : MM, FRd o M1 M' → ∀ c, (c < o ∨ o + 22 ≤ c) → M' c = M c := fun M' h c hc => (h.1 c (by omega) (by omega) (by omega)).trans (cel1 c (by omega) (by omega) (by omega))
  have fin : ∀ (y : RdS × DR) (M3 : MM) (tb : Bool) (v3 : Option Value), y = fx → (y.1.1 ≠ 0 ∨ y.1.2.2.1 = 0) → y.1.1 < 100 → DV y.2 → FRd o M1 M3 → RP M3 o (bet x) y.1 → (y.1.1 = 0 → RDr M3 o y.2) → PT k E Q 0 0 Sh N G M3 112 [some (.ref o), some (.int (nI n)), some (.int (bI tb)), v3] [] := by
    intro y M3 tb v3 hy hend hc hDy hF3 hP3 hR3
    subst hy
    have hFy3 := hFy.rd hF3
    have ra := r1.keepY hFy3 hV.1 hV.mw hV.2.1
    have rim := r2.keep hFy3.1 hV.1 hV.mi (by decide) (by omega) (fun r _ _ => by omega)
    have rst := r3.keep hFy3.1 (by omega)
    refine r_aload_n C 0 rfl rfl rfl rfl ?_
    refine r_geti C rfl f_X12_139 (by assumption) rfl ?_
    rw [hP3.2.2.2.2.1]
    refine r_if_eq C 142 rfl (by decide) (fun h => ?_) (fun h => ?_)
    rotate_left
    · have h : y.1.1 ≠ 0 := fun z => h (by rw [z]; rfl)
      rw [if_neg h] at e3
      refine r_aload_n C 0 rfl rfl rfl rfl ?_
      refine r_aload_n C 0 rfl rfl rfl rfl ?_
      refine r_geti C rfl f_X12_142 (by assumption) rfl ?_
      rw [hP3.2.2.2.2.2.1 h]
      refine r_puti C rfl f_X12_40 (by assumption) rfl rfl rfl ?_
      refine r_aload_n C 0 rfl rfl rfl rfl ?_
      refine r_getv C rfl f_X12_34 (by assumption) rfl ?_
      refine r_ic (v := nI 0) C rfl (by decide) ?_
      refine r_dup2 C rfl rfl rfl ?_
      refine r_iald C rfl (by assumption) (0) rfl (by omega) (by decide) ?_
      rw [up_row _ _ (by omega), rst 0 (by decide)]
      refine r_ic (v := nI 1) C rfl (by decide) ?_
      refine r_iadd C rfl ?_
      refine r_iast C rfl (by assumption) (0) rfl (by omega) (by decide) ?_
      refine r_aload_n C 0 rfl rfl rfl rfl ?_
      refine r_geti C rfl f_X12_139 (by assumption) rfl ?_
      rw [up_row _ _ (by omega), up_ne _ _ (by omega), hP3.2.2.2.2.1]
      have ff : FRM o (fun c => c = o + 9) (fun _ => False) (fun j => j = 22) M3 (up (up M3 o 22 (nI y.1.2.1)) (o + 9) 0 (x.st 0 + nI 1)) := ((FRM.fld M3 o 22 _).mono (fun _ q => q.elim) (fun _ q => q) (fun _ q => q)).trans ((FRM.cel _ o (o + 9) 0 _ (by omega) (by omega)).mono (fun _ q => q) (fun _ q => q) (fun _ q => q.elim))
      refine q_iret C hQ rfl rfl rfl ⟨rfl, rfl, by rw [e2], by rw [ff.2.2 0 (by decide)]; exact k0 M3 hF3, ?_, fun c hc => by rw [ff.low (fun c q => by omega) c hc]; exact low M3 hF3 c hc⟩
      rw [e3]
      refine ⟨ra.keep ff hV.1 hV.mw (by decide) (fun c _ _ => by omega) (fun r _ q => q), rim.keep ff hV.1 hV.mi (by decide) (by omega) (fun r _ _ q => q), ?_, (r4.keep hFy3.1 (by decide) (by omega)).keep ff (by decide) (by omega), (r5.keep hFy3.1 (by decide) (by omega)).keep ff (by decide) (by omega), (r6.keep hFy3.1 (by decide) (by decide) (by decide)).keep ff (by decide) (by decide) (by decide), (r7.keep hFy3.1 (by decide) (fun c _ _ => by omega)).keep ff (by decide) (fun c _ _ => by omega), (r8.keep hFy3.1 hV.2.2.2.2.2.2.2.1 (by omega) (by omega) (fun r _ => by omega)).keep ff hV.2.2.2.2.2.2.2.1 (by omega) (by omega) (fun r _ q => q), ?_⟩
      · have q : RSt (up M3 o 22 (nI y.1.2.1)) o x.st := fun i hi => by rw [up_row _ _ (by omega)]; exact rst i hi
        exact q.up 0 (by decide)
      · refine ⟨?_, fun i hi => absurd hi (Nat.not_lt_zero i), ?_⟩
        · rw [ff.2.2 13 (by decide)]
          exact (hF3.2.2.1 13 (by decide) (by decide)).trans f13
        · rw [up_row _ _ (by omega), up_same]
          rfl
    have h : y.1.1 = 0 := (nI_eq (b := 0) (by omega) (by omega)).mp h
    rw [if_pos h] at e3
    obtain ⟨n1, n2, n3, n4, n5, n6, n7, n8, n9, n10, n11, n12⟩ := e3
    have hR3 := hR3 h
    obtain ⟨d1, d2, ⟨d30, d31, d32⟩, d4, d5⟩ := hR3
    have hnw := hDy.2.1
    have hnk := hDy.2.2.1
    refine r_aload_n C 0 rfl rfl rfl rfl ?_
    refine r_aload_n C 0 rfl rfl rfl rfl ?_
    refine r_geti C rfl f_X12_172 (by assumption) rfl ?_
    rw [d1]
    refine r_puti C rfl f_X12_93 (by assumption) rfl rfl rfl ?_
    refine r_aload_n C 0 rfl rfl rfl rfl ?_
    refine r_getv C rfl f_X12_31 (by assumption) rfl ?_
    refine r_ic (v := nI 0) C rfl (by decide) ?_
    refine r_aload_n C 0 rfl rfl rfl rfl ?_
    refine r_getv C rfl f_X12_31 (by assumption) rfl ?_
    refine r_ic (v := nI 1) C rfl (by decide) ?_
    refine r_iald C rfl (by assumption) (1) rfl (by omega) (by decide) ?_
    rw [up_row _ _ (by omega), d2]
    refine r_iast C rfl (by assumption) (0) rfl (by omega) (by decide) ?_
    refine r_ic (v := nI 0) C rfl (by decide) ?_
    refine r_istore_n C 3 rfl rfl (by exact Nat.le_of_ble_eq_true rfl) ?_
    refine r_iload_n C 3 rfl rfl rfl ?_
    refine r_ic (v := nI 3) C rfl (by decide) ?_
    refine r_icmp_ge C 189 rfl (by decide) (fun z => absurd z (by decide)) (fun _ => ?_)
    refine r_aload_n C 0 rfl rfl rfl rfl ?_
    refine r_getv C rfl f_X12_19 (by assumption) rfl ?_
    refine r_iload_n C 3 rfl rfl rfl ?_
    refine r_aload_n C 0 rfl rfl rfl rfl ?_
    refine r_getv C rfl f_X12_19 (by assumption) rfl ?_
    refine r_ic (v := nI 3) C rfl (by decide) ?_
    refine r_iload_n C 3 rfl rfl rfl ?_
    refine r_iadd C rfl ?_
    refine r_iald C rfl (by assumption) (3) (by decide) (by omega) (by decide) ?_
    rw [up_row _ _ (by omega), up_row _ _ (by omega), d30]
    refine r_iast C rfl (by assumption) (0) rfl (by omega) (by decide) ?_
    refine r_iinc (c := nI 1) C rfl rfl (by decide) ?_
    refine r_goto C 164 rfl (by decide) ?_
    refine r_iload_n C 3 rfl rfl rfl ?_
    refine r_ic (v := nI 3) C rfl (by decide) ?_
    refine r_icmp_ge C 189 rfl (by decide) (fun z => absurd z (by decide)) (fun _ => ?_)
    refine r_aload_n C 0 rfl rfl rfl rfl ?_
    refine r_getv C rfl f_X12_19 (by assumption) rfl ?_
    refine r_iload_n C 3 rfl rfl rfl ?_
    refine r_aload_n C 0 rfl rfl rfl rfl ?_
    refine r_getv C rfl f_X12_19 (by assumption) rfl ?_
    refine r_ic (v := nI 3) C rfl (by decide) ?_
    refine r_iload_n C 3 rfl rfl rfl ?_
    refine r_iadd C rfl ?_
    refine r_iald C rfl (by assumption) (4) (by decide) (by omega) (by decide) ?_
    rw [up_ne _ _ (by omega), up_row _ _ (by omega), up_row _ _ (by omega), d31]
    refine r_iast C rfl (by assumption) (1) (by decide) (by omega) (by decide) ?_
    refine r_iinc (c := nI 1) C rfl rfl (by decide) ?_
    refine r_goto C 164 rfl (by decide) ?_
    refine r_iload_n C 3 rfl rfl rfl ?_
    refine r_ic (v := nI 3) C rfl (by decide) ?_
    refine r_icmp_ge C 189 rfl (by decide) (fun z => absurd z (by decide)) (fun _ => ?_)
    refine r_aload_n C 0 rfl rfl rfl rfl ?_
    refine r_getv C rfl f_X12_19 (by assumption) rfl ?_
    refine r_iload_n C 3 rfl rfl rfl ?_
    refine r_aload_n C 0 rfl rfl rfl rfl ?_
    refine r_getv C rfl f_X12_19 (by assumption) rfl ?_
    refine r_ic (v := nI 3) C rfl (by decide) ?_
    refine r_iload_n C 3 rfl rfl rfl ?_
    refine r_iadd C rfl ?_
    refine r_iald C rfl (by assumption) (5) (by decide) (by omega) (by decide) ?_
    rw [up_ne _ _ (by omega), up_ne _ _ (by omega), up_row _ _ (by omega), up_row _ _ (by omega), d32]
    refine r_iast C rfl (by assumption) (2) (by decide) (by omega) (by decide) ?_
    refine r_iinc (c := nI 1) C rfl rfl (by decide) ?_
    refine r_goto C 164 rfl (by decide) ?_
    refine r_iload_n C 3 rfl rfl rfl ?_
    refine r_ic (v := nI 3) C rfl (by decide) ?_
    refine r_icmp_ge C 189 rfl (by decide) (fun _ => ?_) (fun z => absurd (by decide) z)
    obtain ⟨M4, hM4⟩ : ∃ M4, M4 = up (up (up (up (up M3 o 4 (nI y.2.2.2.1.1)) (o + 8) 0 (nI y.2.2.2.2.1)) (o + 4) 0 (nI y.2.2.1.1)) (o + 4) 1 (nI y.2.2.1.2.1)) (o + 4) 2 (nI y.2.2.1.2.2) := ⟨_, rfl⟩
    refine r_eqM (M' := M4) hM4.symm ?_
    have a4 : M4 o 4 = nI y.2.2.2.1.1 := by simp [hM4, up]
    have a80 : M4 (o + 8) 0 = nI y.2.2.2.2.1 := by simp [hM4, up]
    have a40 : M4 (o + 4) 0 = nI y.2.2.1.1 := by simp [hM4, up]
    have a41 : M4 (o + 4) 1 = nI y.2.2.1.2.1 := by simp [hM4, up]
    have a42 : M4 (o + 4) 2 = nI y.2.2.1.2.2 := by simp [hM4, up]
    have ff4 : FRM o (fun c => c = o + 4 ∨ c = o + 8) (fun _ => False) (fun j => j = 4) M3 M4 := by
      refine ⟨fun c q1 q2 q3 => ?_, fun r _ _ j _ => ?_, fun j q => ?_⟩
      · rw [hM4, up_row _ _ (by omega), up_row _ _ (by omega), up_row _ _ (by omega), up_row _ _ (by omega), up_row _ _ (by omega)]
      · rw [mrow_cell]
        rw [hM4, up_row _ _ (by omega), up_row _ _ (by omega), up_row _ _ (by omega), up_row _ _ (by omega), up_row _ _ (by omega)]
      · rw [hM4, up_row _ _ (by omega), up_row _ _ (by omega), up_row _ _ (by omega), up_row _ _ (by omega), up_ne _ _ (by omega)]
    have tail : ∀ M5 : MM, FRM o (fun _ => False) (fun r => r < 4) (fun _ => False) M4 M5 → (∀ i, i < y.2.2.2.1.1 → ∀ j, j < 325 → mrow M5 o i j = frow y.2.2.2.1.2 i j) → PT k E Q 0 0 Sh N G M5 213 [some (.ref o), some (.int (nI n)), some (.int (bI tb)), some (.int (nI y.2.2.2.1.1))] [] := by
      intro M5 ff5 rows5
      have tail2 : ∀ M6 : MM, FRM o (fun c => o + 5 ≤ c ∧ c ≤ o + 7) (fun _ => False) (fun _ => False) M5 M6 → (∀ k, k < 30 → M6 (o + 5) k = M5 (o + 5) (30 + k) ∧ M6 (o + 6) k = M5 (o + 6) (30 + k) ∧ M6 (o + 7) k = M5 (o + 7) (30 + k)) → PT k E Q 0 0 Sh N G M6 272 [some (.ref o), some (.int (nI n)), some (.int (bI tb)), some (.int (nI 30))] [] := by
        intro M6 ff6 wks
        refine r_aload_n C 0 rfl rfl rfl rfl ?_
        refine r_ic (v := nI 0) C rfl (by decide) ?_
        refine r_puti C rfl f_X12_219 (by assumption) rfl rfl rfl ?_
        refine r_aload_n C 0 rfl rfl rfl rfl ?_
        refine r_ic (v := (-1)) C rfl (by decide) ?_
        refine r_puti C rfl f_X12_65 (by assumption) rfl rfl rfl ?_
        refine r_aload_n C 0 rfl rfl rfl rfl ?_
        refine r_ic (v := (-1)) C rfl (by decide) ?_
        refine r_puti C rfl f_X12_68 (by assumption) rfl rfl rfl ?_
        refine r_aload_n C 0 rfl rfl rfl rfl ?_
        refine r_ic (v := nI 0) C rfl (by decide) ?_
        refine r_puti C rfl f_X12_222 (by assumption) rfl rfl rfl ?_
        refine r_ic (v := nI 0) C rfl (by decide) ?_
        refine r_istore_n C 3 rfl rfl (by exact Nat.le_of_ble_eq_true rfl) ?_
        refine r_iload_n C 3 rfl rfl rfl ?_
        refine r_ic (v := nI 4) C rfl (by decide) ?_
        refine r_icmp_ge C 312 rfl (by decide) (fun z => absurd z (by decide)) (fun _ => ?_)
        refine r_aload_n C 0 rfl rfl rfl rfl ?_
        refine r_getv C rfl f_X12_80 (by assumption) rfl ?_
        refine r_iload_n C 3 rfl rfl rfl ?_
        refine r_ic (v := nI 0) C rfl (by decide) ?_
        refine r_zast C rfl (by assumption) (0) rfl (by omega) (by decide) rfl ?_
        refine r_iinc (c := nI 1) C rfl rfl (by decide) ?_
        refine r_goto C 294 rfl (by decide) ?_
        refine r_iload_n C 3 rfl rfl rfl ?_
        refine r_ic (v := nI 4) C rfl (by decide) ?_
        refine r_icmp_ge C 312 rfl (by decide) (fun z => absurd z (by decide)) (fun _ => ?_)
        refine r_aload_n C 0 rfl rfl rfl rfl ?_
        refine r_getv C rfl f_X12_80 (by assumption) rfl ?_
        refine r_iload_n C 3 rfl rfl rfl ?_
        refine r_ic (v := nI 0) C rfl (by decide) ?_
        refine r_zast C rfl (by assumption) (1) (by decide) (by omega) (by decide) rfl ?_
        refine r_iinc (c := nI 1) C rfl rfl (by decide) ?_
        refine r_goto C 294 rfl (by decide) ?_
        refine r_iload_n C 3 rfl rfl rfl ?_
        refine r_ic (v := nI 4) C rfl (by decide) ?_
        refine r_icmp_ge C 312 rfl (by decide) (fun z => absurd z (by decide)) (fun _ => ?_)
        refine r_aload_n C 0 rfl rfl rfl rfl ?_
        refine r_getv C rfl f_X12_80 (by assumption) rfl ?_
        refine r_iload_n C 3 rfl rfl rfl ?_
        refine r_ic (v := nI 0) C rfl (by decide) ?_
        refine r_zast C rfl (by assumption) (2) (by decide) (by omega) (by decide) rfl ?_
        refine r_iinc (c := nI 1) C rfl rfl (by decide) ?_
        refine r_goto C 294 rfl (by decide) ?_
        refine r_iload_n C 3 rfl rfl rfl ?_
        refine r_ic (v := nI 4) C rfl (by decide) ?_
        refine r_icmp_ge C 312 rfl (by decide) (fun z => absurd z (by decide)) (fun _ => ?_)
        refine r_aload_n C 0 rfl rfl rfl rfl ?_
        refine r_getv C rfl f_X12_80 (by assumption) rfl ?_
        refine r_iload_n C 3 rfl rfl rfl ?_
        refine r_ic (v := nI 0) C rfl (by decide) ?_
        refine r_zast C rfl (by assumption) (3) (by decide) (by omega) (by decide) rfl ?_
        refine r_iinc (c := nI 1) C rfl rfl (by decide) ?_
        refine r_goto C 294 rfl (by decide) ?_
        refine r_iload_n C 3 rfl rfl rfl ?_
        refine r_ic (v := nI 4) C rfl (by decide) ?_
        refine r_icmp_ge C 312 rfl (by decide) (fun _ => ?_) (fun z => absurd (by decide) z)
        refine r_aload_n C 0 rfl rfl rfl rfl ?_
        refine r_ic (v := nI 0) C rfl (by decide) ?_
        refine r_puti C rfl f_X12_225 (by assumption) rfl rfl rfl ?_
        refine r_aload_n C 0 rfl rfl rfl rfl ?_
        refine r_ic (v := (-1)) C rfl (by decide) ?_
        refine r_puti C rfl f_X12_50 (by assumption) rfl rfl rfl ?_
        refine r_aload_n C 0 rfl rfl rfl rfl ?_
        refine r_ic (v := (-1)) C rfl (by decide) ?_
        refine r_puti C rfl f_X12_62 (by assumption) rfl rfl rfl ?_
        refine r_ic (v := nI 0) C rfl (by decide) ?_
        obtain ⟨M7, hM7⟩ : ∃ M7, M7 = up (up (up (up (up (up (up (up (up (up (up M6 o 31 (nI 0)) o 32 (-1)) o 33 (-1)) o 34 (nI 0)) (o + 19) 0 (nI 0)) (o + 19) 1 (nI 0)) (o + 19) 2 (nI 0)) (o + 19) 3 (nI 0)) o 40 (nI 0)) o 25 (-1)) o 29 (-1) := ⟨_, rfl⟩
        refine r_eqM (M' := M7) hM7.symm ?_
        have ff7 : FRM o (fun c => c = o + 19) (fun _ => False) (fun j => j = 25 ∨ j = 29 ∨ j = 40 ∨ (31 ≤ j ∧ j ≤ 34)) M6 M7 := by
          have cc : ∀ c, c ≠ o → c ≠ o + 19 → M7 c = M6 c := by
            intro c q1 q2
            rw [hM7, up_row _ _ q1, up_row _ _ q1, up_row _ _ q1, up_row _ _ q2, up_row _ _ q2, up_row _ _ q2, up_row _ _ q2, up_row _ _ q1, up_row _ _ q1, up_row _ _ q1, up_row _ _ q1]
          refine ⟨fun c q1 q2 q3 => cc c q1 q3, fun r _ _ j _ => by rw [mrow_cell (cc _ (by omega) (by omega))], fun j q => ?_⟩
          rw [hM7, up_ne _ _ (by omega), up_ne _ _ (by omega), up_ne _ _ (by omega), up_row _ _ (by omega), up_row _ _ (by omega), up_row _ _ (by omega), up_row _ _ (by omega), up_ne _ _ (by omega), up_ne _ _ (by omega), up_ne _ _ (by omega), up_ne _ _ (by omega)]
        have b31 : M7 o 31 = nI 0 := by simp [hM7, up]
        have b32 : M7 o 32 = -1 := by simp [hM7, up]
        have b33 : M7 o 33 = -1 := by simp [hM7, up]
        have b34 : M7 o 34 = nI 0 := by simp [hM7, up]
        have b40 : M7 o 40 = nI 0 := by simp [hM7, up]
        have b25 : M7 o 25 = -1 := by simp [hM7, up]
        have b29 : M7 o 29 = -1 := by simp [hM7, up]
        have b19 : ∀ g, g < 4 → M7 (o + 19) g = 0 := by
          intro g hg
          have : g = 0 ∨ g = 1 ∨ g = 2 ∨ g = 3 := by omega
          rcases this with rfl | rfl | rfl | rfl <;> · simp [hM7, up]; rfl
        have c7 : ∀ c, o + 4 ≤ c → c ≤ o + 8 → M7 c = M6 c := fun c q1 q2 => ff7.1 c (by omega) (by omega) (by omega)
        have c6 : ∀ c, c = o + 4 ∨ c = o + 8 → M6 c = M4 c := fun c q => (ff6.1 c (by omega) (by omega) (by omega)).trans (ff5.1 c (by omega) (by omega) (fun q => q))
        refine q_iret C hQ rfl rfl rfl ⟨rfl, rfl, by rw [e2, h], ?_, ?_, fun c hc => ?_⟩
        · rw [ff7.2.2 0 (by decide), ff6.2.2 0 (fun q => q), ff5.2.2 0 (fun q => q), ff4.2.2 0 (by decide)]
          exact k0 M3 hF3
        rotate_left
        · rw [ff7.low (fun c q => by omega) c hc, ff6.low (fun c q => by omega) c hc, ff5.low (fun c q => q.elim) c hc, ff4.low (fun c q => by omega) c hc]
          exact low M3 hF3 c hc
        refine ⟨⟨?_, ⟨?_, ?_, ?_, ?_, fun k hk => ?_⟩, fun i hi => ?_⟩, ⟨?_, fun q => ?_⟩, fun i hi => ?_, ⟨?_, fun l hl => ?_⟩, ⟨?_, fun l hl => ?_⟩, ⟨?_, ?_, ?_⟩, ⟨?_, fun i hi => ?_⟩, fun g hg => ?_, ⟨?_, fun i hi => ?_, ?_⟩⟩
        · rw [n1, ff7.2.2 4 (by decide), ff6.2.2 4 (fun q => q), ff5.2.2 4 (fun q => q)]; exact a4
        · rw [n2]; simp only [grn]; rw [c7 _ (by omega) (by omega), c6 _ (Or.inl rfl), a42]; rfl
        · rw [n2]; simp only [ful]; rw [c7 _ (by omega) (by omega), c6 _ (Or.inl rfl), a42, a40]; rfl
        · rw [n2]; simp only [shr]; rw [c7 _ (by omega) (by omega), c6 _ (Or.inl rfl), a42, a41, a40]; rfl
        · rw [n2, c7 _ (by omega) (by omega), c6 _ (Or.inr rfl)]; exact a80
        · rw [n2] at hk ⊢
          have hk : k < y.2.2.2.2.1 := hk
          obtain ⟨w1, w2, w3⟩ := wks k (by omega)
          obtain ⟨z1, z2, z3⟩ := d5 k hk
          rw [c7 _ (by omega) (by omega), c7 _ (by omega) (by omega), c7 _ (by omega) (by omega), w1, w2, w3, ff5.1 _ (by omega) (by omega) (fun q => q), ff5.1 _ (by omega) (by omega) (fun q => q), ff5.1 _ (by omega) (by omega) (fun q => q), ff4.1 _ (by omega) (by omega) (by omega), ff4.1 _ (by omega) (by omega) (by omega), ff4.1 _ (by omega) (by omega) (by omega), z1, z2, z3]
          exact ⟨rfl, rfl, rfl⟩
        · rw [n1] at hi
          rw [n3 i hi]
          refine row_ag (fun j hj => ?_) ?_
          · rw [ff7.2.1 i (by omega) (fun q => q) j hj, ff6.2.1 i (by omega) (fun q => q) j hj]
            exact rows5 i hi j hj
          · show (frow y.2.2.2.1.2 i 1).toNatClampNeg ≤ 24
            exact Nat.zero_le _
        · rw [n4]; exact b40
        · rw [n4] at q; cases q
        · rw [n5, ff7.1 _ (by omega) (by omega) (by omega), ff6.1 _ (by omega) (by omega) (by omega), ff5.1 _ (by omega) (by omega) (fun q => q), ff4.1 _ (by omega) (by omega) (by omega)]
          exact rst i hi
        · rw [n6]; exact b25
        · rw [n6] at hl; cases hl
        · rw [n7]; exact b29
        · rw [n7] at hl; cases hl
        · rw [n8]; exact b31
        · rw [n8]; exact b32
        · rw [n8]; exact b33
        · rw [n9]; exact b34
        · rw [n9] at hi; exact absurd hi (Nat.not_lt_zero i)
        · rw [n10 g hg]; exact b19 g hg
        · rw [n11, ff7.2.2 13 (by decide), ff6.2.2 13 (fun q => q), ff5.2.2 13 (fun q => q), ff4.2.2 13 (by decide)]
          exact (hF3.2.2.1 13 (by decide) (by decide)).trans f13
        · rw [n11] at hi; exact absurd hi (Nat.not_lt_zero i)
        · rw [n12, ff7.2.2 22 (by decide), ff6.2.2 22 (fun q => q), ff5.2.2 22 (fun q => q), ff4.2.2 22 (by decide)]
          exact (hF3.2.2.1 22 (by decide) (by decide)).trans f22
      have loop : ∀ (m i : Nat) (M6 : MM), i + m = 30 → FRM o (fun c => o + 5 ≤ c ∧ c ≤ o + 7) (fun _ => False) (fun _ => False) M5 M6 → (∀ k, k < i → M6 (o + 5) k = M5 (o + 5) (30 + k) ∧ M6 (o + 6) k = M5 (o + 6) (30 + k) ∧ M6 (o + 7) k = M5 (o + 7) (30 + k)) → (∀ k, 30 ≤ k → M6 (o + 5) k = M5 (o + 5) k ∧ M6 (o + 6) k = M5 (o + 6) k ∧ M6 (o + 7) k = M5 (o + 7) k) → PT k E Q 0 0 Sh N G M6 215 [some (.ref o), some (.int (nI n)), some (.int (bI tb)), some (.int (nI i))] [] := by
        intro m
        induction m with
        | zero =>
          intro i M6 hi ff6 hk1 hk2
          have e : i = 30 := by omega
          subst e
          refine r_iload_n C 3 rfl rfl rfl ?_
          refine r_bi (v := nI 30) C rfl (by decide) ?_
          refine r_icmp_ge C 272 rfl (by decide) (fun _ => ?_) (fun z => absurd (by decide) z)
          exact tail2 M6 ff6 hk1
        | succ m ih =>
          intro i M6 hi ff6 hk1 hk2
          obtain ⟨z1, z2, z3⟩ := hk2 (30 + i) (by omega)
          refine r_iload_n C 3 rfl rfl rfl ?_
          refine r_bi (v := nI 30) C rfl (by decide) ?_
          refine r_icmp_ge C 272 rfl (by decide) (fun z => absurd (le_nI (by omega) (by omega) z) (by omega)) (fun _ => ?_)
          refine r_aload_n C 0 rfl rfl rfl rfl ?_
          refine r_getv C rfl f_X12_22 (by assumption) rfl ?_
          refine r_iload_n C 3 rfl rfl rfl ?_
          refine r_aload_n C 0 rfl rfl rfl rfl ?_
          refine r_getv C rfl f_X12_22 (by assumption) rfl ?_
          refine r_bi (v := nI 30) C rfl (by decide) ?_
          refine r_iload_n C 3 rfl rfl rfl ?_
          refine r_iadd C rfl ?_
          rw [nI_add]
          refine r_iald C rfl (by assumption) (30 + i) rfl (by omega) (by decide) ?_
          rw [z1]
          refine r_iast C rfl (by assumption) (i) rfl (by omega) (by decide) ?_
          refine r_aload_n C 0 rfl rfl rfl rfl ?_
          refine r_getv C rfl f_X12_25 (by assumption) rfl ?_
          refine r_iload_n C 3 rfl rfl rfl ?_
          refine r_aload_n C 0 rfl rfl rfl rfl ?_
          refine r_getv C rfl f_X12_25 (by assumption) rfl ?_
          refine r_bi (v := nI 30) C rfl (by decide) ?_
          refine r_iload_n C 3 rfl rfl rfl ?_
          refine r_iadd C rfl ?_
          rw [nI_add]
          refine r_iald C rfl (by assumption) (30 + i) rfl (by omega) (by decide) ?_
          rw [up_row _ _ (by omega), z2]
          refine r_iast C rfl (by assumption) (i) rfl (by omega) (by decide) ?_
          refine r_aload_n C 0 rfl rfl rfl rfl ?_
          refine r_getv C rfl f_X12_28 (by assumption) rfl ?_
          refine r_iload_n C 3 rfl rfl rfl ?_
          refine r_aload_n C 0 rfl rfl rfl rfl ?_
          refine r_getv C rfl f_X12_28 (by assumption) rfl ?_
          refine r_bi (v := nI 30) C rfl (by decide) ?_
          refine r_iload_n C 3 rfl rfl rfl ?_
          refine r_iadd C rfl ?_
          rw [nI_add]
          refine r_iald C rfl (by assumption) (30 + i) rfl (by omega) (by decide) ?_
          rw [up_row _ _ (by omega), up_row _ _ (by omega), z3]
          refine r_iast C rfl (by assumption) (i) rfl (by omega) (by decide) ?_
          refine r_iinc (c := nI 1) C rfl rfl (by decide) ?_
          refine r_goto C 215 rfl (by decide) ?_
          have fn : ∀ c j v, o + 5 ≤ c → c ≤ o + 7 → ∀ Ma, FRM o (fun c => o + 5 ≤ c ∧ c ≤ o + 7) (fun _ => False) (fun _ => False) M5 Ma → FRM o (fun c => o + 5 ≤ c ∧ c ≤ o + 7) (fun _ => False) (fun _ => False) M5 (up Ma c j v) := fun c j v q1 q2 Ma h => h.trans ((FRM.cel Ma o c j v (by omega) (by omega)).mono (fun x hx => by rw [hx]; exact ⟨q1, q2⟩) (fun _ q => q) (fun _ q => q))
          refine r_eqL ?_ (ih (i + 1) _ (by omega) (fn _ _ _ (by omega) (by omega) _ (fn _ _ _ (by omega) (by omega) _ (fn _ _ _ (by omega) (by omega) _ ff6))) (fun k hk => ?_) (fun k hk => ?_))
          · first | rfl | (simp only [sm, add3, nI_add, Int32.add_zero, Int32.zero_add]; rfl)
          · by_cases e : k = i
            · subst e
              refine ⟨?_, ?_, ?_⟩
              · rw [up_row _ _ (by omega), up_row _ _ (by omega), up_same]
              · rw [up_row _ _ (by omega), up_same]
              · rw [up_same]
            · refine ⟨?_, ?_, ?_⟩
              · rw [up_row _ _ (by omega), up_row _ _ (by omega), up_ne _ _ (by omega)]; exact (hk1 k (by omega)).1
              · rw [up_row _ _ (by omega), up_ne _ _ (by omega), up_row _ _ (by omega)]; exact (hk1 k (by omega)).2.1
              · rw [up_ne _ _ (by omega), up_row _ _ (by omega), up_row _ _ (by omega)]; exact (hk1 k (by omega)).2.2
          · refine ⟨?_, ?_, ?_⟩
            · rw [up_row _ _ (by omega), up_row _ _ (by omega), up_ne _ _ (by omega)]; exact (hk2 k hk).1
            · rw [up_row _ _ (by omega), up_ne _ _ (by omega), up_row _ _ (by omega)]; exact (hk2 k hk).2.1
            · rw [up_ne _ _ (by omega), up_row _ _ (by omega), up_row _ _ (by omega)]; exact (hk2 k hk).2.2
      refine r_ic (v := nI 0) C rfl (by decide) ?_
      refine r_istore_n C 3 rfl rfl (by exact Nat.le_of_ble_eq_true rfl) ?_
      exact loop 30 0 M5 (by omega) FRM.rfl (fun k hk => absurd hk (Nat.not_lt_zero k)) (fun _ _ => ⟨rfl, rfl, rfl⟩)
    have loop : ∀ (m i : Nat) (M5 : MM), i + m = y.2.2.2.1.1 → FRM o (fun _ => False) (fun r => r < 4) (fun _ => False) M4 M5 → (∀ j, j < i → ∀ w, w < 325 → mrow M5 o j w = frow y.2.2.2.1.2 j w) → PT k E Q 0 0 Sh N G M5 191 [some (.ref o), some (.int (nI n)), some (.int (bI tb)), some (.int (nI i))] [] := by
      intro m
      induction m with
      | zero =>
        intro i M5 hi ff5 rows5
        have e : i = y.2.2.2.1.1 := by omega
        refine r_iload_n C 3 rfl rfl rfl ?_
        refine r_aload_n C 0 rfl rfl rfl rfl ?_
        refine r_geti C rfl f_X12_93 (by assumption) rfl ?_
        rw [ff5.2.2 4 (fun q => q), a4]
        refine r_icmp_ge C 213 rfl (by decide) (fun _ => ?_) (fun z => absurd ((nI_leI (by omega) (by omega)).mpr (by omega)) z)
        rw [e]
        exact tail M5 ff5 (fun j hj => rows5 j (by omega))
      | succ m ih =>
        intro i M5 hi ff5 rows5
        refine r_iload_n C 3 rfl rfl rfl ?_
        refine r_aload_n C 0 rfl rfl rfl rfl ?_
        refine r_geti C rfl f_X12_93 (by assumption) rfl ?_
        rw [ff5.2.2 4 (fun q => q), a4]
        refine r_icmp_ge C 213 rfl (by decide) (fun z => absurd (le_nI (by omega) (by omega) z) (by omega)) (fun _ => ?_)
        refine r_aload_n C 0 rfl rfl rfl rfl ?_
        refine r_ic (v := nI 4) C rfl (by decide) ?_
        refine r_iload_n C 3 rfl rfl rfl ?_
        refine r_iadd C rfl ?_
        rw [nI_add]
        refine r_iload_n C 3 rfl rfl rfl ?_
        refine v2_v C rfl mfX12_copy lk_X12_215 (by assumption) (c_X12_copy hM (4 + i) i rfl rfl (by omega) (by omega)) ?_
        refine r_iinc (c := nI 1) C rfl rfl (by decide) ?_
        refine r_goto C 191 rfl (by decide) ?_
        refine r_eqL ?_ (ih (i + 1) _ (by omega) (ff5.trans ⟨fun c q1 q2 _ => mset_cell q2, fun r q1 q2 j hj => mset_else hj (fun z => q2 (by omega)), fun j _ => by rw [mset_cell (by omega)]⟩) (fun j hj w hw => ?_))
        · first | rfl | (simp only [sm, add3, nI_add, Int32.add_zero, Int32.zero_add]; rfl)
        · by_cases e : j = i
          · subst e
            rw [mset_row hw, ff5.2.1 (4 + j) (by omega) (by omega) w hw, ff4.2.1 (4 + j) (by omega) (fun q => q) w hw]
            exact d4 j (by omega) w hw
          · rw [mset_else hw e]
            exact rows5 j (by omega) w hw
    refine r_ic (v := nI 0) C rfl (by decide) ?_
    refine r_istore_n C 3 rfl rfl (by exact Nat.le_of_ble_eq_true rfl) ?_
    exact loop y.2.2.2.1.1 0 M4 (by omega) FRM.rfl (fun j hj => absurd hj (Nat.not_lt_zero j))
  have lines : ∀ (m : Nat) (y : RdS × DR) (M3 : MM) (v3 : Option Value), n < y.1.2.2.2.2 + m → linesF (bet x) n m y = fx → PV (bet x) n y.1 → y.1.1 < 100 → DV y.2 → FRd o M1 M3 → RP M3 o (bet x) y.1 → (y.1.1 = 0 → RDr M3 o y.2) → ∀ tb : Bool, (y.1.1 = 0 → tb = y.2.1) → PT k E Q 0 0 Sh N G M3 89 [some (.ref o), some (.int (nI n)), some (.int (bI tb)), v3] [] := by
    intro m
    induction m with
    | zero =>
      intro y M3 v3 hm hl hvy
      have := hvy.e
      omega
    | succ m ih =>
      intro y M3 v3 hm hl hvy hc hDy hF3 hP3 hR3 tb htb
      rw [linesF] at hl
      have hky := hvy.k
      refine r_aload_n C 0 rfl rfl rfl rfl ?_
      refine r_geti C rfl f_X12_139 (by assumption) rfl ?_
      rw [hP3.2.2.2.2.1]
      refine r_if_ne C 112 rfl (by decide) (fun h => ?_) (fun hb0 => ?_)
      · have h : y.1.1 ≠ 0 := fun z => h (by rw [z]; rfl)
        rw [if_neg (fun z => h z.1)] at hl
        exact fin y M3 tb _ hl (Or.inl h) hc hDy hF3 hP3 hR3
      have hb0 : y.1.1 = 0 := (nI_eq (b := 0) (by omega) (by omega)).mp hb0
      refine r_aload_n C 0 rfl rfl rfl rfl ?_
      refine r_geti C rfl f_X12_116 (by assumption) rfl ?_
      rw [hP3.2.1]
      refine r_if_eq C 112 rfl (by decide) (fun h => ?_) (fun h => ?_)
      · have h : y.1.2.2.1 = 0 := (nI_eq (b := 0) (by omega) (by omega)).mp h
        rw [if_neg (fun z => z.2 h)] at hl
        exact fin y M3 tb _ hl (Or.inr h) hc hDy hF3 hP3 hR3
      have h : y.1.2.2.1 ≠ 0 := fun z => h (by rw [z]; rfl)
      rw [if_pos ⟨hb0, h⟩] at hl
      have htb := htb hb0
      subst htb
      have hT3 := hT1.frd hF3
      refine r_aload_n C 0 rfl rfl rfl rfl ?_
      refine r_iload_n C 2 rfl rfl rfl ?_
      refine v1_g C rfl mfX12_readLine lk_X12_211 (by assumption) (m_readLine hM hT3 hP3 hvy hb0 (hR3 hb0) hDy) ?_
      rintro z M5 ⟨⟨tz, rfl, htz⟩, hL⟩
      refine r_istore_n C 2 rfl rfl (by exact Nat.le_of_ble_eq_true rfl) ?_
      refine r_goto C 89 rfl (by decide) ?_
      have hc2 : (lineF (bet x) n y).1.1 < 100 := lineF_c hc
      by_cases hz : (lineF (bet x) n y).1.1 = 0
      · have hlt := lineF_lt hvy hz
        exact ih (lineF (bet x) n y) M5 _ (by omega) hl (lineF_rv hvy).1 hc2 (lineF_d hDy) (hF3.trans hL.1) hL.2.1 hL.2.2 tz htz
      · have hl2 : lineF (bet x) n y = fx := by
          rw [← hl]
          cases m with
          | zero => rfl
          | succ m => rw [linesF, if_neg (fun w => hz w.1)]
        refine r_aload_n C 0 rfl rfl rfl rfl ?_
        refine r_geti C rfl f_X12_139 (by assumption) rfl ?_
        rw [hL.2.1.2.2.2.2.1]
        refine r_if_ne C 112 rfl (by decide) (fun _ => ?_) (fun w => absurd ((nI_eq (b := 0) (by have : (lineF (bet x) n y).1.1 < 100 := hc2; exact Nat.lt_trans this (by decide)) (by decide)).mp w) hz)
        exact fin (lineF (bet x) n y) M5 tz _ hl2 (Or.inl hz) hc2 (lineF_d hDy) (hF3.trans hL.1) hL.2.1 hL.2.2
  refine r_ic (v := nI 0) C rfl (by decide) ?_
  refine r_istore_n C 2 rfl rfl (by exact Nat.le_of_ble_eq_true rfl) ?_
  refine lines 701 (adv (bet x) n (0, 0, 0, 0, 0), D0) M2 _ ?_ (by rw [hfx, hD0]; rfl) hv2 (by show 0 < 100; decide) hDV (FRd.fj hF2) hP2 (fun _ => hR1.fj hF2) false (fun _ => by rw [hD0])
  show n < (adv (bet x) n (0, 0, 0, 0, 0)).2.2.2.2 + 701
  omega
end RYARD
