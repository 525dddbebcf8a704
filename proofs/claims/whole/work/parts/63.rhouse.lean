section RHOUSE
variable {E : VE} {Sh : Nat → SE} {N : Nat} {G : Bool} {M M' : MM} {o r w v yd b : Nat} {R : Row}
def hoI (n : Nat) (a c e : Int32) : Int32 := if hoNo n a c e = true then -1 else nI (n + 1)
def ST.house (x : ST) (a c e : Int32) : ST := if hoNo x.hn a c e = true then x.ups 3 else x.setHo (x.hn + 1) (upd x.hw x.hn (a * c)) (upd x.hc x.hn e)
theorem R_house (hM : MO Sh N o) {x : ST} (hV : VI b x) (hR : RI M o x) (p q z : Int32) : Con E mX12_house 2 0 0 [.ref o, .int p, .int q, .int z] Sh N G M (PR Sh N (RQ M o (hoI x.hn p q z) 0 (x.house p q z))) nox := by
  have h0 := hM.1
  have h9 : At Sh N (o + 9) (arE 0 4) := hM.ar 8 rfl
  have h16 : At Sh N (o + 16) (arE 0 12) := hM.ar 15 rfl
  have h17 : At Sh N (o + 17) (arE 0 12) := hM.ar 16 rfl
  have h18 : At Sh N (o + 18) (arE 0 12) := hM.ar 17 rfl
  obtain ⟨b0, b1⟩ := hR.2.2.2.2.2.2.1
  have hn : x.hn ≤ 12 := hV.2.2.2.2.2.2.1
  have hst := hR.2.2.1 3 (by decide)
  refine Con.ofQ (by decide +kernel) (by simp [Value.category]) (Nat.le_of_ble_eq_true rfl) (fun k C0 Q hQ => ?_)
  have C : CK k E mX12_house kdX12_house 2 0 0 := ⟨C0, kdX12_house_ok⟩
  refine r_aload_n C 0 rfl rfl rfl rfl ?_
  refine r_ic (v := nI 0) C rfl (by decide) ?_
  refine r_puti C rfl f_X12_90 (by assumption) rfl rfl rfl ?_
  have hR1 := hR.c0 hV (nI 0)
  obtain ⟨M1, hM1⟩ : ∃ M1, M1 = up M o 0 (nI 0) := ⟨_, rfl⟩
  rw [← hM1] at hR1 ⊢
  have c34 : M1 o 34 = nI x.hn := by rw [hM1, up_ne _ _ (by omega)]; exact b0
  have c0 : M1 o 0 = nI 0 := by rw [hM1, up_same]
  have lo1 : ∀ k, (k < o ∨ o + 22 ≤ k) → M1 k = M k := fun k hk => by rw [hM1, up_row _ _ (by omega)]
  have c9 : M1 (o + 9) 3 = x.st 3 := by rw [hM1, up_row _ _ (by omega)]; exact hst
  have no : hoNo x.hn p q z = true → PT k E Q 0 0 Sh N G M1 46 [some (.ref o), some (.int p), some (.int q), some (.int z)] [] := by
    intro h
    refine r_aload_n C 0 rfl rfl rfl rfl ?_
    refine r_getv C rfl f_X12_34 (by assumption) rfl ?_
    refine r_ic (v := nI 3) C rfl (by decide) ?_
    refine r_dup2 C rfl rfl rfl ?_
    refine r_iald C rfl (by assumption) (3) rfl (by omega) (by decide) ?_
    rw [c9]
    refine r_ic (v := nI 1) C rfl (by decide) ?_
    refine r_iadd C rfl ?_
    refine r_iast C rfl (by assumption) (3) rfl (by omega) (by decide) ?_
    refine r_ic (v := (-1)) C rfl (by decide) ?_
    refine q_iret C hQ rfl rfl rfl ⟨rfl, rfl, by rw [hoI, if_pos h], by rw [up_row _ _ (by omega)]; exact c0, ?_, fun k hk => by rw [up_row _ _ (by omega)]; exact lo1 k hk⟩
    rw [ST.house, if_pos h]
    exact hR1.ups hV 3 (by decide) _ rfl
  refine r_aload_n C 0 rfl rfl rfl rfl ?_
  refine r_geti C rfl f_X12_222 (by assumption) rfl ?_
  rw [c34]
  refine r_bi (v := nI 12) C rfl (by decide) ?_
  refine r_icmp_eq C 46 rfl (by decide) (fun h => no ?_) (fun h => ?_)
  · have h := (nI_eq (by omega) (by omega)).mp h
    rw [hoNo, decide_eq_true h, Bool.true_or]
  have h : x.hn ≠ 12 := fun z => h (by rw [z])
  refine r_iload_n C 1 rfl rfl rfl ?_
  refine r_ic (v := nI 0) C rfl (by decide) ?_
  refine r_si (v := nI 1000) C rfl (by decide) ?_
  refine s3_r C rfl mfX12_isIn lk_X12_96 (c_X12_isIn p (nI 0) (nI 1000)) ?_
  rw [inI_if]
  refine r_if_eq C 46 rfl (by decide) (fun h2 => no ?_) (fun h2 => ?_)
  · have h2 : inI p 0 (nI 1000) = false := bI_0 h2
    rw [hoNo, h2, Bool.false_and, Bool.false_and, Bool.not_false, Bool.or_true]
  have h2 : inI p 0 (nI 1000) = true := bI_1 h2
  refine r_iload_n C 2 rfl rfl rfl ?_
  refine r_ic (v := nI 0) C rfl (by decide) ?_
  refine r_bi (v := nI 99) C rfl (by decide) ?_
  refine s3_r C rfl mfX12_isIn lk_X12_96 (c_X12_isIn q (nI 0) (nI 99)) ?_
  rw [inI_if]
  refine r_if_eq C 46 rfl (by decide) (fun h3 => no ?_) (fun h3 => ?_)
  · have h3 : inI q 0 (nI 99) = false := bI_0 h3
    rw [hoNo, h3, Bool.and_false, Bool.false_and, Bool.not_false, Bool.or_true]
  have h3 : inI q 0 (nI 99) = true := bI_1 h3
  refine r_iload_n C 3 rfl rfl rfl ?_
  refine r_ic (v := nI 1) C rfl (by decide) ?_
  refine r_si (v := nI 999) C rfl (by decide) ?_
  refine s3_r C rfl mfX12_isIn lk_X12_96 (c_X12_isIn z (nI 1) (nI 999)) ?_
  rw [inI_if]
  refine r_if_ne C 58 rfl (by decide) (fun h4 => ?_) (fun h4 => no ?_)
  rotate_left
  · have h4 : inI z (nI 1) (nI 999) = false := bI_0 h4
    rw [hoNo, h4, Bool.and_false, Bool.not_false, Bool.or_true]
  have h4 : inI z (nI 1) (nI 999) = true := bI_1 h4
  have e : hoNo x.hn p q z = false := by rw [hoNo, h2, h3, h4, decide_eq_false h]; rfl
  refine r_aload_n C 0 rfl rfl rfl rfl ?_
  refine r_getv C rfl f_X12_71 (by assumption) rfl ?_
  refine r_aload_n C 0 rfl rfl rfl rfl ?_
  refine r_geti C rfl f_X12_222 (by assumption) rfl ?_
  rw [c34]
  refine r_iload_n C 1 rfl rfl rfl ?_
  refine r_iast C rfl (by assumption) (x.hn) rfl (by omega) (by decide) ?_
  refine r_aload_n C 0 rfl rfl rfl rfl ?_
  refine r_getv C rfl f_X12_74 (by assumption) rfl ?_
  refine r_aload_n C 0 rfl rfl rfl rfl ?_
  refine r_geti C rfl f_X12_222 (by assumption) rfl ?_
  rw [up_row _ _ (show o ≠ o + 16 by omega), c34]
  refine r_iload_n C 2 rfl rfl rfl ?_
  refine r_iast C rfl (by assumption) (x.hn) rfl (by omega) (by decide) ?_
  refine r_aload_n C 0 rfl rfl rfl rfl ?_
  refine r_getv C rfl f_X12_77 (by assumption) rfl ?_
  refine r_aload_n C 0 rfl rfl rfl rfl ?_
  refine r_geti C rfl f_X12_222 (by assumption) rfl ?_
  rw [up_row _ _ (show o ≠ o + 17 by omega), up_row _ _ (show o ≠ o + 16 by omega), c34]
  refine r_iload_n C 3 rfl rfl rfl ?_
  refine r_iast C rfl (by assumption) (x.hn) rfl (by omega) (by decide) ?_
  refine r_aload_n C 0 rfl rfl rfl rfl ?_
  refine r_dup C rfl rfl ?_
  refine r_geti C rfl f_X12_222 (by assumption) rfl ?_
  rw [up_row _ _ (show o ≠ o + 18 by omega), up_row _ _ (show o ≠ o + 17 by omega), up_row _ _ (show o ≠ o + 16 by omega), c34]
  refine r_ic (v := nI 1) C rfl (by decide) ?_
  refine r_iadd C rfl ?_
  rw [nI_add]
  refine r_puti C rfl f_X12_222 (by assumption) rfl rfl rfl ?_
  refine r_aload_n C 0 rfl rfl rfl rfl ?_
  refine r_geti C rfl f_X12_222 (by assumption) rfl ?_
  rw [up_same]
  have hF : FRM o (fun c => c = o + 16 ∨ c = o + 17 ∨ c = o + 18) (fun _ => False) (fun j => j = 34) M1 (up (up (up (up M1 (o + 16) x.hn p) (o + 17) x.hn q) (o + 18) x.hn z) o 34 (nI (x.hn + 1))) :=
    (((((FRM.cel M1 o (o + 16) x.hn p (by omega) (by omega)).mono (fun c y => Or.inl y) (fun _ y => y) (fun _ y => y.elim)).trans ((FRM.cel _ o (o + 17) x.hn q (by omega) (by omega)).mono (fun c y => Or.inr (Or.inl y)) (fun _ y => y) (fun _ y => y.elim))).trans ((FRM.cel _ o (o + 18) x.hn z (by omega) (by omega)).mono (fun c y => Or.inr (Or.inr y)) (fun _ y => y) (fun _ y => y.elim)))).trans ((FRM.fld _ o 34 _).mono (fun _ y => y.elim) (fun _ y => y) (fun _ y => y))
  refine q_iret C hQ rfl rfl rfl ⟨rfl, rfl, by rw [hoI, if_neg (by rw [e]; decide)], by rw [hF.2.2 0 (by omega)]; exact c0, ?_, fun k hk => by rw [hF.low (fun c y => by omega) k hk]; exact lo1 k hk⟩
  rw [ST.house, if_neg (by rw [e]; decide)]
  refine hR1.toHo hV (hF.mono (fun c y => Or.inr y) (fun _ y => y.elim) (fun _ y => Or.inr y)) ⟨up_same _ _ _ _, fun i hi => ?_⟩
  have d16 : (up (up (up (up M1 (o + 16) x.hn p) (o + 17) x.hn q) (o + 18) x.hn z) o 34 (nI (x.hn + 1))) (o + 16) = upd (M1 (o + 16)) x.hn p := by
    rw [up_row _ _ (show o + 16 ≠ o by omega), up_row _ _ (show o + 16 ≠ o + 18 by omega), up_row _ _ (show o + 16 ≠ o + 17 by omega), up_own]
  have d17 : (up (up (up (up M1 (o + 16) x.hn p) (o + 17) x.hn q) (o + 18) x.hn z) o 34 (nI (x.hn + 1))) (o + 17) = upd (M1 (o + 17)) x.hn q := by
    rw [up_row _ _ (show o + 17 ≠ o by omega), up_row _ _ (show o + 17 ≠ o + 18 by omega), up_own, up_row _ _ (show o + 17 ≠ o + 16 by omega)]
  have d18 : (up (up (up (up M1 (o + 16) x.hn p) (o + 17) x.hn q) (o + 18) x.hn z) o 34 (nI (x.hn + 1))) (o + 18) = upd (M1 (o + 18)) x.hn z := by
    rw [up_row _ _ (show o + 18 ≠ o by omega), up_own, up_row _ _ (show o + 18 ≠ o + 17 by omega), up_row _ _ (show o + 18 ≠ o + 16 by omega)]
  rw [d16, d17, d18]
  by_cases ei : i = x.hn
  · rw [ei, upd_self, upd_self, upd_self, upd_self, upd_self]
    exact ⟨rfl, rfl⟩
  · rw [upd_other _ _ ei, upd_other _ _ ei, upd_other _ _ ei, upd_other _ _ ei, upd_other _ _ ei]
    exact hR1.2.2.2.2.2.2.1.2 i (by omega)
/-- what 'first' answers -/
def firstA (x : ST) (coin z : Int32) : Nat × Int32 := if inI z 0 (nI 2) = false then (1, 0) else if inI coin 0 (nI 9999) = false then (2, 0) else
  (0, if z = 0 then (hoX x.hw x.hc x.hn coin (2 ^ x.hn - 1)).1 else if z = nI 1 then (hoX x.hw x.hc x.hn coin (2 ^ x.hn - 1)).2.1 else nI (hoX x.hw x.hc x.hn coin (2 ^ x.hn - 1)).2.2)
theorem R_first (hM : MO Sh N o) {x : ST} (hV : VI b x) (hR : RI M o x) (coin z : Int32) : Con E mX12_first 2 0 0 [.ref o, .int coin, .int z] Sh N G M (PR Sh N (RQ M o (firstA x coin z).2 (firstA x coin z).1 x)) nox := by
  have h0 := hM.1
  have h16 : At Sh N (o + 16) (arE 0 12) := hM.ar 15 rfl
  have h17 : At Sh N (o + 17) (arE 0 12) := hM.ar 16 rfl
  have h18 : At Sh N (o + 18) (arE 0 12) := hM.ar 17 rfl
  have hn : x.hn ≤ 12 := hV.2.2.2.2.2.2.1
  refine Con.ofQ (by decide +kernel) (by simp [Value.category]) (Nat.le_of_ble_eq_true rfl) (fun k C0 Q hQ => ?_)
  have C : CK k E mX12_first kdX12_first 2 0 0 := ⟨C0, kdX12_first_ok⟩
  refine r_aload_n C 0 rfl rfl rfl rfl ?_
  refine r_ic (v := nI 0) C rfl (by decide) ?_
  refine r_puti C rfl f_X12_90 (by assumption) rfl rfl rfl ?_
  have hR1 := hR.c0 hV (nI 0)
  obtain ⟨M1, hM1⟩ : ∃ M1, M1 = up M o 0 (nI 0) := ⟨_, rfl⟩
  rw [← hM1] at hR1 ⊢
  obtain ⟨c34, b1⟩ := hR1.2.2.2.2.2.2.1
  have c0 : M1 o 0 = nI 0 := by rw [hM1, up_same]
  have lo1 : ∀ k, (k < o ∨ o + 22 ≤ k) → M1 k = M k := fun k hk => by rw [hM1, up_row _ _ (by omega)]
  refine r_iload_n C 2 rfl rfl rfl ?_
  refine r_ic (v := nI 0) C rfl (by decide) ?_
  refine r_ic (v := nI 2) C rfl (by decide) ?_
  refine s3_r C rfl mfX12_isIn lk_X12_96 (c_X12_isIn z (nI 0) (nI 2)) ?_
  rw [inI_if]
  refine r_if_ne C 20 rfl (by decide) (fun h1 => ?_) (fun h1 => ?_)
  rotate_left
  · have h1 : inI z 0 (nI 2) = false := bI_0 h1
    have ea : firstA x coin z = (1, 0) := by rw [firstA, if_pos h1]
    refine r_aload_n C 0 rfl rfl rfl rfl ?_
    refine r_ic (v := nI 1) C rfl (by decide) ?_
    refine v1_r C rfl mfX12_fail lk_X12_208 (by assumption) (c_fail hM (nI 1)) ?_
    exact q_iret C hQ rfl rfl rfl ⟨rfl, rfl, by rw [ea]; rfl, by rw [ea, up_same], hR1.c0 hV _, fun k hk => by rw [up_row _ _ (by omega)]; exact lo1 k hk⟩
  have h1 : inI z 0 (nI 2) = true := bI_1 h1
  refine r_iload_n C 1 rfl rfl rfl ?_
  refine r_ic (v := nI 0) C rfl (by decide) ?_
  refine r_si (v := nI 9999) C rfl (by decide) ?_
  refine s3_r C rfl mfX12_isIn lk_X12_96 (c_X12_isIn coin (nI 0) (nI 9999)) ?_
  rw [inI_if]
  refine r_if_ne C 37 rfl (by decide) (fun h2 => ?_) (fun h2 => ?_)
  rotate_left
  · have h2 : inI coin 0 (nI 9999) = false := bI_0 h2
    have ea : firstA x coin z = (2, 0) := by rw [firstA, if_neg (by rw [h1]; decide), if_pos h2]
    refine r_aload_n C 0 rfl rfl rfl rfl ?_
    refine r_ic (v := nI 2) C rfl (by decide) ?_
    refine v1_r C rfl mfX12_fail lk_X12_208 (by assumption) (c_fail hM (nI 2)) ?_
    exact q_iret C hQ rfl rfl rfl ⟨rfl, rfl, by rw [ea]; rfl, by rw [ea, up_same], hR1.c0 hV _, fun k hk => by rw [up_row _ _ (by omega)]; exact lo1 k hk⟩
  have h2 : inI coin 0 (nI 9999) = true := bI_1 h2
  generalize hst : hoX x.hw x.hc x.hn coin (2 ^ x.hn - 1) = fst
  have ea : firstA x coin z = (0, if z = 0 then fst.1 else if z = nI 1 then fst.2.1 else nI fst.2.2) := by
    rw [firstA, if_neg (by rw [h1]; decide), if_neg (by rw [h2]; decide), hst]
  rw [ea] at hQ
  generalize x.hw = wv at hst b1
  generalize x.hc = cv at hst b1
  generalize x.hn = n at hst b1 c34 hn
  have hp : 2 ^ n ≤ 2 ^ 12 := Nat.pow_le_pow_right (by decide) hn
  have hp0 : 0 < 2 ^ n := Nat.pow_pos (by decide)
  have big : ∀ (m s : Nat) (v7 v8 v9 : Option Value), s + m = 2 ^ n → 1 ≤ s → PT k E Q 0 0 Sh N G M1 48 [some (.ref o), some (.int coin), some (.int z), some (.int (nI (hoX wv cv n coin (s - 1)).2.2)), some (.int (hoX wv cv n coin (s - 1)).1), some (.int (hoX wv cv n coin (s - 1)).2.1), some (.int (nI s)), v7, v8, v9] [] := by
    intro m
    induction m with
    | zero =>
      intro s v7 v8 v9 hs h1
      rw [show s - 1 = 2 ^ n - 1 by omega, hst]
      refine r_iload C rfl rfl ?_
      refine r_ic (v := nI 1) C rfl (by decide) ?_
      refine r_aload_n C 0 rfl rfl rfl rfl ?_
      refine r_geti C rfl f_X12_222 (by assumption) rfl ?_
      rw [c34]
      refine r_ishl C rfl ?_
      rw [nx_shl (by omega) (by omega), Nat.one_mul]
      refine r_icmp_ge C 178 rfl (by decide) (fun _ => ?_) (fun q => absurd ((nI_leI (by omega) (by omega)).mpr (by omega)) q)
      refine r_iload_n C 2 rfl rfl rfl ?_
      refine r_if_ne C 187 rfl (by decide) (fun hz => ?_) (fun hz => ?_)
      · refine r_iload_n C 2 rfl rfl rfl ?_
        refine r_ic (v := nI 1) C rfl (by decide) ?_
        refine r_icmp_ne C 197 rfl (by decide) (fun hz1 => ?_) (fun hz1 => ?_)
        · refine r_iload_n C 3 rfl rfl rfl ?_
          exact q_iret C hQ rfl rfl rfl ⟨rfl, rfl, by show _ = some (Value.int (if z = 0 then fst.1 else if z = nI 1 then fst.2.1 else nI fst.2.2)); rw [if_neg hz, if_neg hz1], c0, hR1, lo1⟩
        · refine r_iload C rfl rfl ?_
          refine r_goto C 198 rfl (by decide) ?_
          exact q_iret C hQ rfl rfl rfl ⟨rfl, rfl, by show _ = some (Value.int (if z = 0 then fst.1 else if z = nI 1 then fst.2.1 else nI fst.2.2)); rw [if_neg hz, if_pos hz1], c0, hR1, lo1⟩
      · refine r_iload C rfl rfl ?_
        refine r_goto C 198 rfl (by decide) ?_
        exact q_iret C hQ rfl rfl rfl ⟨rfl, rfl, by show _ = some (Value.int (if z = 0 then fst.1 else if z = nI 1 then fst.2.1 else nI fst.2.2)); rw [if_pos hz], c0, hR1, lo1⟩
    | succ m ih =>
      intro s v7 v8 v9 hs h1
      obtain ⟨st, hst2⟩ : ∃ st, st = hoX wv cv n coin (s - 1) := ⟨_, rfl⟩
      rw [← hst2]
      have hX : hoX wv cv n coin s = if hS n cv s ≤ coin ∧ (st.1 < hS n wv s ∨ (hS n wv s = st.1 ∧ hS n cv s < st.2.1)) then (hS n wv s, hS n cv s, s) else st := by
        obtain ⟨s', rfl⟩ : ∃ s', s = s' + 1 := ⟨s - 1, by omega⟩
        rw [hst2, hoX]
        rfl
      refine r_iload C rfl rfl ?_
      refine r_ic (v := nI 1) C rfl (by decide) ?_
      refine r_aload_n C 0 rfl rfl rfl rfl ?_
      refine r_geti C rfl f_X12_222 (by assumption) rfl ?_
      rw [c34]
      refine r_ishl C rfl ?_
      rw [nx_shl (by omega) (by omega), Nat.one_mul]
      refine r_icmp_ge C 178 rfl (by decide) (fun q => absurd (le_nI (by omega) (by omega) q) (by omega)) (fun _ => ?_)
      have fin : ∀ v9, PT k E Q 0 0 Sh N G M1 131 [some (.ref o), some (.int coin), some (.int z), some (.int (nI st.2.2)), some (.int st.1), some (.int st.2.1), some (.int (nI s)), some (.int (hS n cv s)), some (.int (hS n wv s)), v9] [] := by
        intro v9
        have no : ¬ (hS n cv s ≤ coin ∧ (st.1 < hS n wv s ∨ (hS n wv s = st.1 ∧ hS n cv s < st.2.1))) → PT k E Q 0 0 Sh N G M1 172 [some (.ref o), some (.int coin), some (.int z), some (.int (nI st.2.2)), some (.int st.1), some (.int st.2.1), some (.int (nI s)), some (.int (hS n cv s)), some (.int (hS n wv s)), v9] [] := by
          intro h
          rw [if_neg h] at hX
          refine r_iinc (c := nI 1) C rfl rfl (by decide) ?_
          refine r_goto C 48 rfl (by decide) ?_
          refine r_eqL ?_ (ih (s + 1) (some (.int (hS n cv s))) (some (.int (hS n wv s))) v9 (by omega) (by omega))
          rw [Nat.add_sub_cancel, hX, ← nI_add]
          rfl
        have yes : (hS n cv s ≤ coin ∧ (st.1 < hS n wv s ∨ (hS n wv s = st.1 ∧ hS n cv s < st.2.1))) → PT k E Q 0 0 Sh N G M1 161 [some (.ref o), some (.int coin), some (.int z), some (.int (nI st.2.2)), some (.int st.1), some (.int st.2.1), some (.int (nI s)), some (.int (hS n cv s)), some (.int (hS n wv s)), v9] [] := by
          intro h
          rw [if_pos h] at hX
          refine r_iload C rfl rfl ?_
          refine r_istore_n C 3 rfl rfl (by exact Nat.le_of_ble_eq_true rfl) ?_
          refine r_iload C rfl rfl ?_
          refine r_istore C rfl (by exact Nat.le_of_ble_eq_true rfl) ?_
          refine r_iload C rfl rfl ?_
          refine r_istore C rfl (by exact Nat.le_of_ble_eq_true rfl) ?_
          refine r_iinc (c := nI 1) C rfl rfl (by decide) ?_
          refine r_goto C 48 rfl (by decide) ?_
          refine r_eqL ?_ (ih (s + 1) (some (.int (hS n cv s))) (some (.int (hS n wv s))) v9 (by omega) (by omega))
          rw [Nat.add_sub_cancel, hX, ← nI_add]
          rfl
        refine r_iload C rfl rfl ?_
        refine r_iload_n C 1 rfl rfl rfl ?_
        refine r_icmp_gt C 172 rfl (by decide) (fun h => no (fun y => Int32.not_le.mpr h y.1)) (fun h => ?_)
        refine r_iload C rfl rfl ?_
        refine r_iload C rfl rfl ?_
        refine r_icmp_lt C 172 rfl (by decide) (fun h3 => no (fun y => y.2.elim (fun a => Int32.lt_irrefl (Int32.lt_trans a h3)) (fun a => by rw [a.1] at h3; exact Int32.lt_irrefl h3))) (fun h3 => ?_)
        refine r_iload C rfl rfl ?_
        refine r_iload C rfl rfl ?_
        refine r_icmp_ne C 161 rfl (by decide) (fun h4 => yes ⟨Int32.not_lt.mp h, Or.inl ?_⟩) (fun h4 => ?_)
        · have h3 := Int32.not_lt.mp h3
          rw [Int32.le_iff_toInt_le] at h3
          rw [Int32.lt_iff_toInt_lt]
          have : (hS n wv s).toInt ≠ st.1.toInt := fun y => h4 (Int32.toInt_inj.mp y)
          omega
        refine r_iload C rfl rfl ?_
        refine r_iload C rfl rfl ?_
        refine r_icmp_lt C 161 rfl (by decide) (fun h5 => yes ⟨Int32.not_lt.mp h, Or.inr ⟨h4, h5⟩⟩) (fun h5 => ?_)
        refine r_goto C 172 rfl (by decide) ?_
        exact no (fun y => y.2.elim (fun a => by rw [h4] at a; exact Int32.lt_irrefl a) (fun a => h5 a.2))
      have inner : ∀ (m c : Nat) (p q : Int32), c + m = n → p + hS m (fun i => cv (c + i)) (s / 2 ^ c) = hS n cv s → q + hS m (fun i => wv (c + i)) (s / 2 ^ c) = hS n wv s → PT k E Q 0 0 Sh N G M1 68 [some (.ref o), some (.int coin), some (.int z), some (.int (nI st.2.2)), some (.int st.1), some (.int st.2.1), some (.int (nI s)), some (.int p), some (.int q), some (.int (nI c))] [] := by
        intro m
        induction m with
        | zero =>
          intro c p q hc hp1 hq1
          rw [hS, Int32.add_zero] at hp1 hq1
          refine r_iload C rfl rfl ?_
          refine r_aload_n C 0 rfl rfl rfl rfl ?_
          refine r_geti C rfl f_X12_222 (by assumption) rfl ?_
          rw [c34]
          refine r_icmp_ge C 131 rfl (by decide) (fun _ => ?_) (fun q => absurd ((nI_leI (by omega) (by omega)).mpr (by omega)) q)
          rw [hp1, hq1]
          exact fin _
        | succ m ihm =>
          intro c p q hc hp1 hq1
          have hdl := Nat.div_le_self s (2 ^ c)
          have ed : s / 2 ^ c / 2 = s / 2 ^ (c + 1) := by rw [Nat.div_div_eq_div_mul, Nat.pow_succ]
          have ew : ∀ (f : Nat → Int32) (y tot : Int32), y + hS (m + 1) (fun i => f (c + i)) (s / 2 ^ c) = tot → y + nI (s / 2 ^ c % 2) * f c + hS m (fun i => f (c + 1 + i)) (s / 2 ^ (c + 1)) = tot := by
            intro f y tot hy
            rw [hS, ed] at hy
            have e1 : (fun i => f (c + (i + 1))) = fun i => f (c + 1 + i) := by funext i; rw [show c + (i + 1) = c + 1 + i by omega]
            have hy : y + (nI (s / 2 ^ c % 2) * f c + hS m (fun i => f (c + (i + 1))) (s / 2 ^ (c + 1))) = tot := hy
            rw [e1] at hy
            rw [← hy, Int32.add_assoc]
          refine r_iload C rfl rfl ?_
          refine r_aload_n C 0 rfl rfl rfl rfl ?_
          refine r_geti C rfl f_X12_222 (by assumption) rfl ?_
          rw [c34]
          refine r_icmp_ge C 131 rfl (by decide) (fun q => absurd (le_nI (by omega) (by omega) q) (by omega)) (fun _ => ?_)
          refine r_iload C rfl rfl ?_
          refine r_iload C rfl rfl ?_
          refine r_iload C rfl rfl ?_
          refine r_ishr C rfl ?_
          rw [nx_shr (by omega) (by omega)]
          refine r_ic (v := nI 1) C rfl (by decide) ?_
          refine r_iand C rfl ?_
          rw [pk_andN (by omega) 1 (by decide), Nat.pow_one]
          refine r_aload_n C 0 rfl rfl rfl rfl ?_
          refine r_getv C rfl f_X12_77 (by assumption) rfl ?_
          refine r_iload C rfl rfl ?_
          refine r_iald C rfl (by assumption) (c) rfl (by omega) (by decide) ?_
          rw [(b1 c (by omega)).2]
          refine r_imul C rfl ?_
          refine r_iadd C rfl ?_
          refine r_istore C rfl (by exact Nat.le_of_ble_eq_true rfl) ?_
          refine r_iload C rfl rfl ?_
          refine r_iload C rfl rfl ?_
          refine r_iload C rfl rfl ?_
          refine r_ishr C rfl ?_
          rw [nx_shr (by omega) (by omega)]
          refine r_ic (v := nI 1) C rfl (by decide) ?_
          refine r_iand C rfl ?_
          rw [pk_andN (by omega) 1 (by decide), Nat.pow_one]
          refine r_aload_n C 0 rfl rfl rfl rfl ?_
          refine r_getv C rfl f_X12_71 (by assumption) rfl ?_
          refine r_iload C rfl rfl ?_
          refine r_iald C rfl (by assumption) (c) rfl (by omega) (by decide) ?_
          refine r_imul C rfl ?_
          refine r_aload_n C 0 rfl rfl rfl rfl ?_
          refine r_getv C rfl f_X12_74 (by assumption) rfl ?_
          refine r_iload C rfl rfl ?_
          refine r_iald C rfl (by assumption) (c) rfl (by omega) (by decide) ?_
          refine r_imul C rfl ?_
          rw [Int32.mul_assoc, (b1 c (by omega)).1]
          refine r_iadd C rfl ?_
          refine r_istore C rfl (by exact Nat.le_of_ble_eq_true rfl) ?_
          refine r_iinc (c := nI 1) C rfl rfl (by decide) ?_
          refine r_goto C 68 rfl (by decide) ?_
          refine r_eqL ?_ (ihm (c + 1) _ _ (by omega) (ew cv p _ hp1) (ew wv q _ hq1))
          first | rfl | (simp only [sm, add3, nI_add, Int32.add_zero, Int32.zero_add]; rfl)
      refine r_ic (v := nI 0) C rfl (by decide) ?_
      refine r_istore C rfl (by exact Nat.le_of_ble_eq_true rfl) ?_
      refine r_ic (v := nI 0) C rfl (by decide) ?_
      refine r_istore C rfl (by exact Nat.le_of_ble_eq_true rfl) ?_
      refine r_ic (v := nI 0) C rfl (by decide) ?_
      refine r_istore C rfl (by exact Nat.le_of_ble_eq_true rfl) ?_
      refine inner n 0 0 0 (by omega) ?_ ?_
      · rw [Nat.pow_zero, Nat.div_one, Int32.zero_add]
        simp only [Nat.zero_add]
      · rw [Nat.pow_zero, Nat.div_one, Int32.zero_add]
        simp only [Nat.zero_add]
  refine r_ic (v := nI 0) C rfl (by decide) ?_
  refine r_istore_n C 3 rfl rfl (by exact Nat.le_of_ble_eq_true rfl) ?_
  refine r_ic (v := nI 0) C rfl (by decide) ?_
  refine r_istore C rfl (by exact Nat.le_of_ble_eq_true rfl) ?_
  refine r_ic (v := nI 0) C rfl (by decide) ?_
  refine r_istore C rfl (by exact Nat.le_of_ble_eq_true rfl) ?_
  refine r_ic (v := nI 1) C rfl (by decide) ?_
  refine r_istore C rfl (by exact Nat.le_of_ble_eq_true rfl) ?_
  exact big (2 ^ n - 1) 1 none none none (by omega) (by omega)
end RHOUSE
