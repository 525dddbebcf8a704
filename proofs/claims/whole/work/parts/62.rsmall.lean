section RSMALL
variable {E : VE} {Sh : Nat → SE} {N : Nat} {G : Bool} {M M' : MM} {o r w v yd b : Nat} {R : Row}
def ST.ups (x : ST) (i : Nat) : ST := x.setSt (upd x.st i (x.st i + nI 1))
theorem RSt.up {st : Nat → Int32} (h : RSt M o st) (i : Nat) (hi : i < 4) : RSt (up M (o + 9) i (st i + nI 1)) o (upd st i (st i + nI 1)) := by
  intro j hj
  rw [up_own]
  by_cases e : j = i
  · rw [e, upd_self, upd_self]
  · rw [upd_other _ _ e, upd_other _ _ e]; exact h j hj
/-- a refusal is counted -/
theorem RI.ups {x : ST} (h : RI M o x) (hV : VI b x) (i : Nat) (hi : i < 4) (z : Int32) (hz : z = x.st i + nI 1) : RI (up M (o + 9) i z) o (x.ups i) := by
  rw [hz]
  exact h.toSt hV ((FRM.cel M o (o + 9) i _ (by omega) (by omega)).mono (fun c q => Or.inr q) (fun _ q => q.elim) (fun _ q => q.elim)) (h.2.2.1.up i hi)
theorem RI.c0 {x : ST} (h : RI M o x) (hV : VI b x) (z : Int32) : RI (up M o 0 z) o x := h.keep hV ((FRM.fld M o 0 z).mono (fun _ q => q.elim) (fun _ q => q.elim) (fun _ q => Or.inl q))
def brI (st : BR) (s : Int32) (c : Bool) : Int32 := if brNo st s c = true then -1 else nI (st.1 + 1)
def ST.brick (x : ST) (s : Int32) (c : Bool) : ST := if brNo x.br s c = true then x.ups 2 else x.setBr (brS x.br s c)
theorem R_brick (hM : MO Sh N o) {x : ST} (hV : VI b x) (hR : RI M o x) (s : Int32) (c : Bool) : Con E mX12_brick 2 0 0 [.ref o, .int s, .int (bI c)] Sh N G M (PR Sh N (RQ M o (brI x.br s c) 0 (x.brick s c))) nox := by
  have h0 := hM.1
  have h9 : At Sh N (o + 9) (arE 0 4) := hM.ar 8 rfl
  obtain ⟨b0, b1, b2⟩ := hR.2.2.2.2.2.1
  have hO : BrOk x.br := hV.2.2.2.2.2.1
  have h40 := hO.1
  have hst := hR.2.2.1 2 (by decide)
  have hsh := share_I hO.2.1
  refine Con.ofQ (by decide +kernel) (by simp [Value.category]) (Nat.le_of_ble_eq_true rfl) (fun k C0 Q hQ => ?_)
  have C : CK k E mX12_brick kdX12_brick 2 0 0 := ⟨C0, kdX12_brick_ok⟩
  refine r_aload_n C 0 rfl rfl rfl rfl ?_
  refine r_ic (v := nI 0) C rfl (by decide) ?_
  refine r_puti C rfl f_X12_90 (by assumption) rfl rfl rfl ?_
  have hR1 := hR.c0 hV (nI 0)
  obtain ⟨M1, hM1⟩ : ∃ M1, M1 = up M o 0 (nI 0) := ⟨_, rfl⟩
  rw [← hM1] at hR1 ⊢
  have c31 : M1 o 31 = nI x.br.1 := by rw [hM1, up_ne _ _ (by omega)]; exact b0
  have c32 : M1 o 32 = x.br.2.1 := by rw [hM1, up_ne _ _ (by omega)]; exact b1
  have c33 : M1 o 33 = x.br.2.2 := by rw [hM1, up_ne _ _ (by omega)]; exact b2
  have c0 : M1 o 0 = nI 0 := by rw [hM1, up_same]
  have lo1 : ∀ k, (k < o ∨ o + 22 ≤ k) → M1 k = M k := fun k hk => by rw [hM1, up_row _ _ (by omega)]
  have c9 : M1 (o + 9) 2 = x.st 2 := by rw [hM1, up_row _ _ (by omega)]; exact hst
  have no : brNo x.br s c = true → ∀ v3, PT k E Q 0 0 Sh N G M1 78 [some (.ref o), some (.int s), some (.int (bI c)), v3] [] := by
    intro h v3
    refine r_aload_n C 0 rfl rfl rfl rfl ?_
    refine r_getv C rfl f_X12_34 (by assumption) rfl ?_
    refine r_ic (v := nI 2) C rfl (by decide) ?_
    refine r_dup2 C rfl rfl rfl ?_
    refine r_iald C rfl (by assumption) (2) rfl (by omega) (by decide) ?_
    rw [c9]
    refine r_ic (v := nI 1) C rfl (by decide) ?_
    refine r_iadd C rfl ?_
    refine r_iast C rfl (by assumption) (2) rfl (by omega) (by decide) ?_
    refine r_ic (v := (-1)) C rfl (by decide) ?_
    refine q_iret C hQ rfl rfl rfl ⟨rfl, rfl, by rw [brI, if_pos h], by rw [up_row _ _ (by omega)]; exact c0, ?_, fun k hk => by rw [up_row _ _ (by omega)]; exact lo1 k hk⟩
    rw [ST.brick, if_pos h]
    exact hR1.ups hV 2 (by decide) _ rfl
  have mid : ∀ gr : Bool, (inI s 0 (nI 100) = true → brG x.br s c = gr) → PT k E Q 0 0 Sh N G M1 54 [some (.ref o), some (.int s), some (.int (bI c)), none] [.int (bI gr)] := by
    intro gr hgr
    refine r_istore_n C 3 rfl rfl (by exact Nat.le_of_ble_eq_true rfl) ?_
    refine r_aload_n C 0 rfl rfl rfl rfl ?_
    refine r_geti C rfl f_X12_219 (by assumption) rfl ?_
    rw [c31]
    refine r_bi (v := nI 40) C rfl (by decide) ?_
    refine r_icmp_eq C 78 rfl (by decide) (fun h => no ?_ _) (fun h => ?_)
    · have h := (nI_eq (by omega) (by omega)).mp h
      rw [brNo, decide_eq_true h, Bool.true_or, Bool.true_or]
    have h : x.br.1 ≠ 40 := fun z => h (by rw [z])
    refine r_iload_n C 1 rfl rfl rfl ?_
    refine r_ic (v := nI 0) C rfl (by decide) ?_
    refine r_bi (v := nI 100) C rfl (by decide) ?_
    refine s3_r C rfl mfX12_isIn lk_X12_96 (c_X12_isIn s (nI 0) (nI 100)) ?_
    rw [inI_if]
    refine r_if_eq C 78 rfl (by decide) (fun h2 => no ?_ _) (fun h2 => ?_)
    · have h2 : inI s 0 (nI 100) = false := bI_0 h2
      rw [brNo, h2, Bool.not_false, Bool.or_true, Bool.true_or]
    have h2 : inI s 0 (nI 100) = true := bI_1 h2
    have hgr := hgr h2
    refine r_iload_n C 3 rfl rfl rfl ?_
    refine r_if_eq C 90 rfl (by decide) (fun h3 => ?_) (fun h3 => no (by rw [brNo, hgr, bI_1 h3, Bool.or_true]) _)
    have h3 := bI_0 h3
    have e : brNo x.br s c = false := by rw [brNo, hgr, h3, h2, decide_eq_false h]; rfl
    have eS : brS x.br s c = (x.br.1 + 1, if c = true then mx x.br.2.1 s else x.br.2.1, if c = true then x.br.2.2 else if x.br.2.2 = -1 then s else mi x.br.2.2 s) := by rw [brS, if_neg (by rw [e]; decide)]
    have fin : ∀ M2, (∃ z : Int32, ∃ j, (j = 32 ∨ j = 33) ∧ M2 = up M1 o j z) → M2 o 32 = (brS x.br s c).2.1 → M2 o 33 = (brS x.br s c).2.2 → PT k E Q 0 0 Sh N G M2 133 [some (.ref o), some (.int s), some (.int (bI c)), some (.int (bI gr))] [] := by
      rintro M2 ⟨z, j, hj, hM2⟩ e32 e33
      have d31 : M2 o 31 = nI x.br.1 := by rw [hM2, up_ne _ _ (by omega)]; exact c31
      refine r_aload_n C 0 rfl rfl rfl rfl ?_
      refine r_dup C rfl rfl ?_
      refine r_geti C rfl f_X12_219 (by assumption) rfl ?_
      rw [d31]
      refine r_ic (v := nI 1) C rfl (by decide) ?_
      refine r_iadd C rfl ?_
      rw [nI_add]
      refine r_puti C rfl f_X12_219 (by assumption) rfl rfl rfl ?_
      refine r_aload_n C 0 rfl rfl rfl rfl ?_
      refine r_geti C rfl f_X12_219 (by assumption) rfl ?_
      rw [up_same]
      refine q_iret C hQ rfl rfl rfl ⟨rfl, rfl, by rw [brI, if_neg (by rw [e]; decide)], by rw [up_ne _ _ (by omega), hM2, up_ne _ _ (by omega)]; exact c0, ?_, fun k hk => by rw [up_row _ _ (by omega), hM2, up_row _ _ (by omega)]; exact lo1 k hk⟩
      rw [ST.brick, if_neg (by rw [e]; decide)]
      refine hR1.toBr hV (FRM.trans (M' := M2) (by rw [hM2]; exact (FRM.fld M1 o j z).mono (fun _ q => q.elim) (fun _ q => q.elim) (fun _ q => by omega)) ((FRM.fld M2 o 31 _).mono (fun _ q => q.elim) (fun _ q => q.elim) (fun _ q => by omega))) ⟨?_, ?_, ?_⟩
      · rw [up_same, eS]
      · rw [up_ne _ _ (by omega)]; exact e32
      · rw [up_ne _ _ (by omega)]; exact e33
    refine r_iload_n C 2 rfl rfl rfl ?_
    refine r_if_eq C 109 rfl (by decide) (fun h5 => ?_) (fun h5 => ?_)
    · have h5 := bI_0 h5
      have go : ∀ z, z = (if x.br.2.2 = -1 then s else mi x.br.2.2 s) → PT k E Q 0 0 Sh N G M1 130 [some (.ref o), some (.int s), some (.int (bI c)), some (.int (bI gr))] [.int z, .ref o] := by
        intro z hz
        refine r_puti C rfl f_X12_68 (by assumption) rfl rfl rfl ?_
        refine fin _ ⟨z, 33, by omega, rfl⟩ ?_ ?_
        · rw [up_ne _ _ (by omega), eS, c32, h5]; rfl
        · rw [up_same, eS, h5, hz]; rfl
      refine r_aload_n C 0 rfl rfl rfl rfl ?_
      refine r_aload_n C 0 rfl rfl rfl rfl ?_
      refine r_geti C rfl f_X12_68 (by assumption) rfl ?_
      rw [c33]
      refine r_ic (v := (-1)) C rfl (by decide) ?_
      refine r_icmp_ne C 122 rfl (by decide) (fun h6 => ?_) (fun h6 => ?_)
      · refine r_aload_n C 0 rfl rfl rfl rfl ?_
        refine r_geti C rfl f_X12_68 (by assumption) rfl ?_
        rw [c33]
        refine r_iload_n C 1 rfl rfl rfl ?_
        refine r_min C rfl lk_X12_130 ?_
        exact go _ (by rw [if_neg h6])
      · refine r_iload_n C 1 rfl rfl rfl ?_
        refine r_goto C 130 rfl (by decide) ?_
        exact go _ (by rw [if_pos h6])
    · have h5 := bI_1 h5
      refine r_aload_n C 0 rfl rfl rfl rfl ?_
      refine r_aload_n C 0 rfl rfl rfl rfl ?_
      refine r_geti C rfl f_X12_65 (by assumption) rfl ?_
      rw [c32]
      refine r_iload_n C 1 rfl rfl rfl ?_
      refine r_max C rfl lk_X12_257 ?_
      refine r_puti C rfl f_X12_65 (by assumption) rfl rfl rfl ?_
      refine r_goto C 133 rfl (by decide) ?_
      refine fin _ ⟨_, 32, by omega, rfl⟩ ?_ ?_
      · rw [up_same, eS, h5]; rfl
      · rw [up_ne _ _ (by omega), eS, c33, h5]; rfl
  refine r_iload_n C 2 rfl rfl rfl ?_
  refine r_if_eq C 33 rfl (by decide) (fun h => ?_) (fun h => ?_)
  · have h := bI_0 h
    have nog : (inI s 0 (nI 100) = true → brG x.br s c = false) → PT k E Q 0 0 Sh N G M1 53 [some (.ref o), some (.int s), some (.int (bI c)), none] [] := by
      intro hb
      refine r_ic (v := nI 0) C rfl (by decide) ?_
      exact mid false hb
    refine r_aload_n C 0 rfl rfl rfl rfl ?_
    refine r_geti C rfl f_X12_65 (by assumption) rfl ?_
    rw [c32]
    refine r_ic (v := (-1)) C rfl (by decide) ?_
    refine r_icmp_eq C 53 rfl (by decide) (fun h2 => nog (fun hi => ?_)) (fun h2 => ?_)
    · rw [brG, if_neg (by rw [h]; decide), h2]
      apply decide_eq_false
      have := (of_decide_eq_true hi).1
      rw [Int32.le_iff_toInt_le] at this ⊢
      have e1 : (-1 : Int32).toInt = -1 := rfl
      have e0 : (0 : Int32).toInt = 0 := rfl
      omega
    refine r_iload_n C 1 rfl rfl rfl ?_
    refine r_aload_n C 0 rfl rfl rfl rfl ?_
    refine r_geti C rfl f_X12_65 (by assumption) rfl ?_
    rw [c32]
    refine r_icmp_gt C 53 rfl (by decide) (fun h3 => nog (fun _ => ?_)) (fun h3 => ?_)
    · rw [brG, if_neg (by rw [h]; decide), decide_eq_false (Int32.not_le.mpr h3)]
    refine r_ic (v := nI 1) C rfl (by decide) ?_
    refine r_goto C 54 rfl (by decide) ?_
    exact mid true (fun _ => by rw [brG, if_neg (by rw [h]; decide), decide_eq_true (Int32.not_lt.mp h3)])
  · have h := bI_1 h
    have nog : ¬ (x.br.2.2 ≠ -1 ∧ x.br.2.2 ≤ s) → PT k E Q 0 0 Sh N G M1 29 [some (.ref o), some (.int s), some (.int (bI c)), none] [] := by
      intro hb
      refine r_ic (v := nI 0) C rfl (by decide) ?_
      refine r_goto C 54 rfl (by decide) ?_
      exact mid false (fun _ => by rw [brG, if_pos h, decide_eq_false hb])
    refine r_aload_n C 0 rfl rfl rfl rfl ?_
    refine r_geti C rfl f_X12_68 (by assumption) rfl ?_
    rw [c33]
    refine r_ic (v := (-1)) C rfl (by decide) ?_
    refine r_icmp_eq C 29 rfl (by decide) (fun h2 => nog (fun z => z.1 h2)) (fun h2 => ?_)
    refine r_iload_n C 1 rfl rfl rfl ?_
    refine r_aload_n C 0 rfl rfl rfl rfl ?_
    refine r_geti C rfl f_X12_68 (by assumption) rfl ?_
    rw [c33]
    refine r_icmp_lt C 29 rfl (by decide) (fun h3 => nog (fun z => Int32.not_le.mpr h3 z.2)) (fun h3 => ?_)
    refine r_ic (v := nI 1) C rfl (by decide) ?_
    refine r_goto C 54 rfl (by decide) ?_
    exact mid true (fun _ => by rw [brG, if_pos h, decide_eq_true ⟨h2, Int32.not_lt.mp h3⟩])
/-- what 'mix' answers -/
def mixA (st : BR) (z : Int32) : Nat × Int32 := if z = nI 0 then (0, st.2.1) else if z = nI 1 then (0, st.2.2) else if z = nI 2 then (0, (brLo st + brHi st) / nI 2) else if z = nI 3 then (0, nI (halv 10 (brHi st - brLo st))) else (1, 0)
theorem brLo_mx {st : BR} (h : BrOk st) : mx (nI 0) st.2.1 = brLo st := by
  have h1 := share_I h.2.1
  unfold brLo
  by_cases e : st.2.1 = -1
  · rw [if_pos e, e]; decide
  · rw [if_neg e]
    have : st.2.1.toInt ≠ -1 := fun z => e (Int32.toInt_inj.mp (by rw [z]; rfl))
    simp only [mx]
    by_cases q : nI 0 < st.2.1
    · rw [if_pos q]
    · rw [if_neg q]
      rw [Int32.lt_iff_toInt_lt] at q
      have e0 : (nI 0).toInt = 0 := rfl
      apply Int32.toInt_inj.mp
      omega
theorem R_mix (hM : MO Sh N o) {x : ST} (hV : VI b x) (hR : RI M o x) (z : Int32) : Con E mX12_mix 2 0 0 [.ref o, .int z] Sh N G M (PR Sh N (RQ M o (mixA x.br z).2 (mixA x.br z).1 x)) nox := by
  have h0 := hM.1
  obtain ⟨b0, b1, b2⟩ := hR.2.2.2.2.2.1
  have hO : BrOk x.br := hV.2.2.2.2.2.1
  have hd := br_d hO
  refine Con.ofQ (by decide +kernel) (by simp [Value.category]) (Nat.le_of_ble_eq_true rfl) (fun k C0 Q hQ => ?_)
  have C : CK k E mX12_mix kdX12_mix 2 0 0 := ⟨C0, kdX12_mix_ok⟩
  refine r_aload_n C 0 rfl rfl rfl rfl ?_
  refine r_ic (v := nI 0) C rfl (by decide) ?_
  refine r_puti C rfl f_X12_90 (by assumption) rfl rfl rfl ?_
  have hR1 := hR.c0 hV (nI 0)
  obtain ⟨M1, hM1⟩ : ∃ M1, M1 = up M o 0 (nI 0) := ⟨_, rfl⟩
  rw [← hM1] at hR1 ⊢
  have c32 : M1 o 32 = x.br.2.1 := by rw [hM1, up_ne _ _ (by omega)]; exact b1
  have c33 : M1 o 33 = x.br.2.2 := by rw [hM1, up_ne _ _ (by omega)]; exact b2
  have c0 : M1 o 0 = nI 0 := by rw [hM1, up_same]
  have lo1 : ∀ k, (k < o ∨ o + 22 ≤ k) → M1 k = M k := fun k hk => by rw [hM1, up_row _ _ (by omega)]
  refine r_ic (v := nI 0) C rfl (by decide) ?_
  refine r_aload_n C 0 rfl rfl rfl rfl ?_
  refine r_geti C rfl f_X12_65 (by assumption) rfl ?_
  rw [c32]
  refine r_max C rfl lk_X12_257 ?_
  refine r_top (brLo x.br) (brLo_mx hO) ?_
  refine r_istore_n C 2 rfl rfl (by exact Nat.le_of_ble_eq_true rfl) ?_
  refine r_aload_n C 0 rfl rfl rfl rfl ?_
  refine r_geti C rfl f_X12_68 (by assumption) rfl ?_
  rw [c33]
  refine r_ic (v := (-1)) C rfl (by decide) ?_
  have mid : PT k E Q 0 0 Sh N G M1 31 [some (.ref o), some (.int z), some (.int (brLo x.br)), none, none, none] [.int (brHi x.br)] := by
    refine r_istore_n C 3 rfl rfl (by exact Nat.le_of_ble_eq_true rfl) ?_
    refine r_ic (v := nI 0) C rfl (by decide) ?_
    refine r_istore C rfl (by exact Nat.le_of_ble_eq_true rfl) ?_
    refine r_iload_n C 1 rfl rfl rfl ?_
    have is : ∀ n : Nat, n < 4 → z.toInt = n → z = nI n := fun n hn h => Int32.toInt_inj.mp (by rw [h, nI_toInt (by omega)])
    by_cases e0 : z = nI 0
    · subst e0
      refine r_tabIn C 68 rfl (by decide) (by decide) rfl (by decide) ?_
      refine r_aload_n C 0 rfl rfl rfl rfl ?_
      refine r_geti C rfl f_X12_65 (by assumption) rfl ?_
      rw [c32]
      exact q_iret C hQ rfl rfl rfl ⟨rfl, rfl, rfl, c0, hR1, lo1⟩
    by_cases e1 : z = nI 1
    · subst e1
      refine r_tabIn C 73 rfl (by decide) (by decide) rfl (by decide) ?_
      refine r_aload_n C 0 rfl rfl rfl rfl ?_
      refine r_geti C rfl f_X12_68 (by assumption) rfl ?_
      rw [c33]
      exact q_iret C hQ rfl rfl rfl ⟨rfl, rfl, rfl, c0, hR1, lo1⟩
    by_cases e2 : z = nI 2
    · subst e2
      refine r_tabIn C 78 rfl (by decide) (by decide) rfl (by decide) ?_
      refine r_iload_n C 2 rfl rfl rfl ?_
      refine r_iload_n C 3 rfl rfl rfl ?_
      refine r_iadd C rfl ?_
      refine r_ic (v := nI 2) C rfl (by decide) ?_
      refine r_idiv C rfl (by decide) ?_
      exact q_iret C hQ rfl rfl rfl ⟨rfl, rfl, rfl, c0, hR1, lo1⟩
    by_cases e3 : z = nI 3
    · subst e3
      have ea : mixA x.br (nI 3) = (0, nI (halv 10 (brHi x.br - brLo x.br))) := rfl
      rw [ea] at hQ
      refine r_tabIn C 84 rfl (by decide) (by decide) rfl (by decide) ?_
      have loop : ∀ (f n : Nat) (d : Int32), f + n = 9 → d.toInt ≤ 2 ^ f → halv 10 (brHi x.br - brLo x.br) = n + halv (f + 1) d → PT k E Q 0 0 Sh N G M1 89 [some (.ref o), some (.int (nI 3)), some (.int (brLo x.br)), some (.int (brHi x.br)), some (.int (nI n)), some (.int d)] [] := by
        intro f
        induction f with
        | zero =>
          intro n d hn hd he
          have hd1 : d ≤ nI 1 := by rw [Int32.le_iff_toInt_le]; exact hd
          refine r_iload C rfl rfl ?_
          refine r_ic (v := nI 1) C rfl (by decide) ?_
          refine r_icmp_le C 109 rfl (by decide) (fun h => ?_) (fun h => absurd hd1 h)
          refine r_iload C rfl rfl ?_
          exact q_iret C hQ rfl rfl rfl ⟨rfl, rfl, by rw [he, halv, if_pos hd1, Nat.add_zero], c0, hR1, lo1⟩
        | succ f ih =>
          intro n d hn hd he
          refine r_iload C rfl rfl ?_
          refine r_ic (v := nI 1) C rfl (by decide) ?_
          refine r_icmp_le C 109 rfl (by decide) (fun h => ?_) (fun h => ?_)
          · refine r_iload C rfl rfl ?_
            exact q_iret C hQ rfl rfl rfl ⟨rfl, rfl, by rw [he, halv, if_pos h, Nat.add_zero], c0, hR1, lo1⟩
          have hp : (2 : Int) ^ (f + 1) = 2 * 2 ^ f := by rw [Int.pow_succ]; omega
          have hb : (2 : Int) ^ f ≤ 256 := by
            rcases (show f = 0 ∨ f = 1 ∨ f = 2 ∨ f = 3 ∨ f = 4 ∨ f = 5 ∨ f = 6 ∨ f = 7 ∨ f = 8 by omega) with e | e | e | e | e | e | e | e | e <;> subst e <;> decide
          obtain ⟨h2, h3⟩ := halv_step hd (by omega) h
          rw [show halv (f + 1 + 1) d = halv (f + 1) ((d + nI 1) / nI 2) + 1 from by rw [halv, if_neg h]] at he
          refine r_iinc (c := nI 1) C rfl rfl (by decide) ?_
          refine r_iload C rfl rfl ?_
          refine r_ic (v := nI 1) C rfl (by decide) ?_
          refine r_iadd C rfl ?_
          refine r_ic (v := nI 2) C rfl (by decide) ?_
          refine r_idiv C rfl (by decide) ?_
          refine r_istore C rfl (by exact Nat.le_of_ble_eq_true rfl) ?_
          refine r_goto C 89 rfl (by decide) ?_
          refine r_eqL ?_ (ih (n + 1) ((d + nI 1) / nI 2) (by omega) (by omega) (by rw [he]; omega))
          first | rfl | (simp only [sm, add3, nI_add, Int32.add_zero, Int32.zero_add]; rfl)
      refine r_iload_n C 3 rfl rfl rfl ?_
      refine r_iload_n C 2 rfl rfl rfl ?_
      refine r_isub C rfl ?_
      refine r_istore C rfl (by exact Nat.le_of_ble_eq_true rfl) ?_
      exact loop 9 0 (brHi x.br - brLo x.br) (by omega) (by have e : (2 : Int) ^ 9 = 512 := by decide
                                                            omega) (by rw [Nat.zero_add])
    have ea : mixA x.br z = (1, 0) := by rw [mixA, if_neg e0, if_neg e1, if_neg e2, if_neg e3]
    refine r_tabOut C 112 rfl ?_ (by decide) ?_
    · by_cases q : z.toInt < 0
      · exact Or.inl q
      · right
        refine Int.not_le.mp (fun q2 => ?_)
        rcases (show z.toInt = (0 : Nat) ∨ z.toInt = (1 : Nat) ∨ z.toInt = (2 : Nat) ∨ z.toInt = (3 : Nat) by omega) with y | y | y | y
        · exact e0 (is 0 (by omega) y)
        · exact e1 (is 1 (by omega) y)
        · exact e2 (is 2 (by omega) y)
        · exact e3 (is 3 (by omega) y)
    refine r_aload_n C 0 rfl rfl rfl rfl ?_
    refine r_ic (v := nI 1) C rfl (by decide) ?_
    refine v1_r C rfl mfX12_fail lk_X12_208 (by assumption) (c_fail hM (nI 1)) ?_
    exact q_iret C hQ rfl rfl rfl ⟨rfl, rfl, by rw [ea]; rfl, by rw [ea, up_same], hR1.c0 hV _, fun k hk => by rw [up_row _ _ (by omega)]; exact lo1 k hk⟩
  refine r_icmp_ne C 27 rfl (by decide) (fun h => ?_) (fun h => ?_)
  · refine r_aload_n C 0 rfl rfl rfl rfl ?_
    refine r_geti C rfl f_X12_68 (by assumption) rfl ?_
    rw [c33]
    refine r_top (brHi x.br) (by rw [brHi, if_neg h]) ?_
    exact mid
  · refine r_bi (v := nI 100) C rfl (by decide) ?_
    refine r_goto C 31 rfl (by decide) ?_
    refine r_top (brHi x.br) (by rw [brHi, if_pos h]) ?_
    exact mid
end RSMALL
