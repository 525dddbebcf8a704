section RPUB
variable {E : VE} {Sh : Nat → SE} {N : Nat} {G : Bool} {M M' : MM} {o r w v yd b : Nat} {R : Row}
def ST.row (x : ST) (w : Nat) (R : Row) : ST := x.setRw (fun i => if i = w then R else x.Rw i)
/-- a reference's method begins: its code is put to 0 -/
theorem RI.c0' {x : ST} (h : RI M o x) (hV : VI b x) : ∃ M1, M1 = up M o 0 (nI 0) ∧ RI M1 o x ∧ M1 o 0 = nI 0 ∧ ∀ k, (k < o ∨ o + 22 ≤ k) → M1 k = M k := ⟨_, rfl, h.c0 hV (nI 0), up_same _ _ _ _, fun k hk => up_row _ _ (by omega)⟩
theorem RI.row {x : ST} (h : RI M o x) (hV : VI b x) {w : Nat} (hw : w < x.wn) {R' : Row} {S T J : Nat → Prop} (hF : FRM o S T J M M') (hS : ∀ c, S c → SX o c) (hT : ∀ r, T r → TX r ∨ r = w) (hJ : ∀ j, J j → JX j) (a : Ag (mrow M' o w) R') : RI M' o (x.row w R') := by
  have hw4 := hV.1
  refine h.toRw hV (hF.mono hS (fun r q => (hT r q).elim Or.inl (fun z => Or.inr (by omega))) hJ) (RA.one h.1 hF hV.1 hV.mw a (fun q => ?_) (fun c h1 h2 q => ?_) (fun r h1 h2 q => ?_))
  · have := hJ 4 q; simp only [JX] at this; omega
  · have := hS c q; simp only [SX] at this; omega
  · have := hT r q; simp only [TX] at this; omega
theorem R_fault (hM : MO Sh N o) {x : ST} (hV : VI b x) (hR : RI M o x) : Con E mX12_fault 1 0 0 [.ref o] Sh N G M (PR Sh N (RQ M o x.fp 0 x)) nox := by
  have h0 := hM.1
  refine Con.ofQ (by decide +kernel) (by simp [Value.category]) (Nat.le_of_ble_eq_true rfl) (fun k C0 Q hQ => ?_)
  have C : CK k E mX12_fault kdX12_fault 1 0 0 := ⟨C0, kdX12_fault_ok⟩
  refine r_aload_n C 0 rfl rfl rfl rfl ?_
  refine r_ic (v := nI 0) C rfl (by decide) ?_
  refine r_puti C rfl f_X12_90 (by assumption) rfl rfl rfl ?_
  obtain ⟨M1, hM1, hR1, c0, lo1⟩ := hR.c0' hV
  rw [← hM1]
  refine r_aload_n C 0 rfl rfl rfl rfl ?_
  refine r_geti C rfl f_X12_40 (by assumption) rfl ?_
  rw [hR1.2.2.2.2.2.2.2.2.2.2]
  exact q_iret C hQ rfl rfl rfl ⟨rfl, rfl, rfl, c0, hR1, lo1⟩
/-- what 'count' answers -/
def countA (x : ST) (z : Int32) : Nat × Int32 := if inI z (nI 8) (nI 11) = true then (0, x.st (z.toNatClampNeg - 8)) else if z = nI 0 then (0, nI x.wn) else if z = nI 1 then (0, nI x.ye.wk) else if z = nI 2 then (0, x.ye.f) else if z = nI 3 then (0, x.ye.sk) else if z = nI 4 then (0, x.ye.g) else if z = nI 5 then (0, nI x.tl) else if z = nI 6 then (0, sm (fun i => x.Rw i 11) x.wn) else if z = nI 7 then (0, sm (fun i => x.Rw i 12) x.wn) else (1, 0)
theorem z_is {z : Int32} {n : Nat} (hn : n < 1000) (h : z.toInt = n) : z = nI n := Int32.toInt_inj.mp (by rw [h, nI_toInt (by omega)])
theorem R_count (hM : MO Sh N o) {x : ST} (hV : VI b x) (hR : RI M o x) (z : Int32) : Con E mX12_count 2 0 0 [.ref o, .int z] Sh N G M (PR Sh N (RQ M o (countA x z).2 (countA x z).1 x)) nox := by
  have h0 := hM.1
  have h9 : At Sh N (o + 9) (arE 0 4) := hM.ar 8 rfl
  have h8 : At Sh N (o + 8) (arE 0 2) := hM.ar 7 rfl
  have hw4 := hV.1
  refine Con.ofQ (by decide +kernel) (by simp [Value.category]) (Nat.le_of_ble_eq_true rfl) (fun k C0 Q hQ => ?_)
  have C : CK k E mX12_count kdX12_count 2 0 0 := ⟨C0, kdX12_count_ok⟩
  refine r_aload_n C 0 rfl rfl rfl rfl ?_
  refine r_ic (v := nI 0) C rfl (by decide) ?_
  refine r_puti C rfl f_X12_90 (by assumption) rfl rfl rfl ?_
  obtain ⟨M1, hM1, hR1, c0, lo1⟩ := hR.c0' hV
  rw [← hM1]
  have hYR := hR1.1.2.1
  refine r_iload_n C 1 rfl rfl rfl ?_
  refine r_bi (v := nI 8) C rfl (by decide) ?_
  refine r_bi (v := nI 11) C rfl (by decide) ?_
  refine s3_r C rfl mfX12_isIn lk_X12_96 (c_X12_isIn z (nI 8) (nI 11)) ?_
  rw [inI_if]
  refine r_if_eq C 26 rfl (by decide) (fun h => ?_) (fun h => ?_)
  rotate_left
  · have h := bI_1 h
    obtain ⟨n, n1, n2, rfl⟩ := (inI_iff (by decide) (by decide)).mp h
    have ea : countA x (nI n) = (0, x.st (n - 8)) := by rw [countA, if_pos h, nI_clamp (by omega)]
    rw [ea] at hQ
    refine r_aload_n C 0 rfl rfl rfl rfl ?_
    refine r_getv C rfl f_X12_34 (by assumption) rfl ?_
    refine r_iload_n C 1 rfl rfl rfl ?_
    refine r_bi (v := nI 8) C rfl (by decide) ?_
    refine r_isub C rfl ?_
    rw [pk_sub (a := n) (b := 8) (by omega)]
    refine r_iald C rfl (by assumption) (n - 8) rfl (by omega) (by decide) ?_
    rw [hR1.2.2.1 (n - 8) (by omega)]
    exact q_iret C hQ rfl rfl rfl ⟨rfl, rfl, rfl, c0, hR1, lo1⟩
  have h := bI_0 h
  refine r_ic (v := nI 0) C rfl (by decide) ?_
  refine r_istore_n C 2 rfl rfl (by exact Nat.le_of_ble_eq_true rfl) ?_
  refine r_iload_n C 1 rfl rfl rfl ?_
  by_cases e0 : z = nI 0
  · subst e0
    refine r_tabIn C 76 rfl (by decide) (by decide) rfl (by decide) ?_
    refine r_aload_n C 0 rfl rfl rfl rfl ?_
    refine r_geti C rfl f_X12_93 (by assumption) rfl ?_
    rw [hR1.1.1]
    exact q_iret C hQ rfl rfl rfl ⟨rfl, rfl, rfl, c0, hR1, lo1⟩
  by_cases e1 : z = nI 1
  · subst e1
    refine r_tabIn C 81 rfl (by decide) (by decide) rfl (by decide) ?_
    refine r_aload_n C 0 rfl rfl rfl rfl ?_
    refine r_getv C rfl f_X12_31 (by assumption) rfl ?_
    refine r_ic (v := nI 0) C rfl (by decide) ?_
    refine r_iald C rfl (by assumption) (0) rfl (by omega) (by decide) ?_
    rw [hYR.2.2.2.1]
    exact q_iret C hQ rfl rfl rfl ⟨rfl, rfl, rfl, c0, hR1, lo1⟩
  by_cases e2 : z = nI 2
  · subst e2
    refine r_tabIn C 88 rfl (by decide) (by decide) rfl (by decide) ?_
    refine r_aload_n C 0 rfl rfl rfl rfl ?_
    refine v0_r C rfl mfX12_full lk_X12_229 (by assumption) (c_X12_full hM) ?_
    rw [hYR.2.1]
    exact q_iret C hQ rfl rfl rfl ⟨rfl, rfl, rfl, c0, hR1, lo1⟩
  by_cases e3 : z = nI 3
  · subst e3
    refine r_tabIn C 93 rfl (by decide) (by decide) rfl (by decide) ?_
    refine r_aload_n C 0 rfl rfl rfl rfl ?_
    refine v0_r C rfl mfX12_shrink lk_X12_232 (by assumption) (c_X12_shrink hM) ?_
    rw [hYR.2.2.1]
    exact q_iret C hQ rfl rfl rfl ⟨rfl, rfl, rfl, c0, hR1, lo1⟩
  by_cases e4 : z = nI 4
  · subst e4
    refine r_tabIn C 98 rfl (by decide) (by decide) rfl (by decide) ?_
    refine r_aload_n C 0 rfl rfl rfl rfl ?_
    refine v0_r C rfl mfX12_green lk_X12_235 (by assumption) (c_X12_green hM) ?_
    rw [hYR.1]
    exact q_iret C hQ rfl rfl rfl ⟨rfl, rfl, rfl, c0, hR1, lo1⟩
  by_cases e5 : z = nI 5
  · subst e5
    refine r_tabIn C 103 rfl (by decide) (by decide) rfl (by decide) ?_
    refine r_aload_n C 0 rfl rfl rfl rfl ?_
    refine r_geti C rfl f_X12_100 (by assumption) rfl ?_
    rw [hR1.2.2.2.2.2.2.2.2.1]
    exact q_iret C hQ rfl rfl rfl ⟨rfl, rfl, rfl, c0, hR1, lo1⟩
  by_cases e67 : z = nI 6 ∨ z = nI 7
  · have go : ∀ t : Nat, (t = 11 ∨ t = 12) → countA x z = (0, sm (fun i => x.Rw i t) x.wn) → (z = nI 6 ↔ t = 11) → PT k E Q 0 0 Sh N G M1 108 [some (.ref o), some (.int z), some (.int (nI 0)), none] [] := by
      intro t ht ea hz
      rw [ea] at hQ
      have loop : ∀ (m i : Nat), i + m = x.wn → PT k E Q 0 0 Sh N G M1 110 [some (.ref o), some (.int z), some (.int (sm (fun i => x.Rw i t) i)), some (.int (nI i))] [] := by
        intro m
        induction m with
        | zero =>
          intro i hi
          refine r_iload_n C 3 rfl rfl rfl ?_
          refine r_aload_n C 0 rfl rfl rfl rfl ?_
          refine r_geti C rfl f_X12_93 (by assumption) rfl ?_
          rw [hR1.1.1]
          refine r_icmp_ge C 145 rfl (by decide) (fun _ => ?_) (fun z => absurd ((nI_leI (by omega) (by omega)).mpr (by omega)) z)
          rw [show i = x.wn by omega]
          refine r_iload_n C 2 rfl rfl rfl ?_
          exact q_iret C hQ rfl rfl rfl ⟨rfl, rfl, rfl, c0, hR1, lo1⟩
        | succ m ih =>
          intro i hi
          have ai := hR1.1.2.2 i (by omega)
          refine r_iload_n C 3 rfl rfl rfl ?_
          refine r_aload_n C 0 rfl rfl rfl rfl ?_
          refine r_geti C rfl f_X12_93 (by assumption) rfl ?_
          rw [hR1.1.1]
          refine r_icmp_ge C 145 rfl (by decide) (fun q => absurd (le_nI (by omega) (by omega) q) (by omega)) (fun _ => ?_)
          have fin : PT k E Q 0 0 Sh N G M1 134 [some (.ref o), some (.int z), some (.int (sm (fun i => x.Rw i t) i)), some (.int (nI i))] [.int (nI t), .int (nI i), .ref o, .int (sm (fun i => x.Rw i t) i)] := by
            refine v2_r C rfl mfX12_of lk_X12_238 (by assumption) (m_of hM t rfl rfl (by omega) (by omega) ai) ?_
            refine r_iadd C rfl ?_
            refine r_istore_n C 2 rfl rfl (by exact Nat.le_of_ble_eq_true rfl) ?_
            refine r_iinc (c := nI 1) C rfl rfl (by decide) ?_
            refine r_goto C 110 rfl (by decide) ?_
            refine r_eqL ?_ (ih (i + 1) (by omega))
            rw [sm, ← nI_add i 1]
            rfl
          refine r_iload_n C 2 rfl rfl rfl ?_
          refine r_aload_n C 0 rfl rfl rfl rfl ?_
          refine r_iload_n C 3 rfl rfl rfl ?_
          refine r_iload_n C 1 rfl rfl rfl ?_
          refine r_bi (v := nI 6) C rfl (by decide) ?_
          refine r_icmp_ne C 132 rfl (by decide) (fun q => ?_) (fun q => ?_)
          · have e : t = 12 := ht.resolve_left (fun y => q (hz.mpr y))
            subst e
            refine r_bi (v := nI 12) C rfl (by decide) ?_
            exact fin
          · have e : t = 11 := hz.mp q
            subst e
            refine r_bi (v := nI 11) C rfl (by decide) ?_
            refine r_goto C 134 rfl (by decide) ?_
            exact fin
      refine r_ic (v := nI 0) C rfl (by decide) ?_
      refine r_istore_n C 3 rfl rfl (by exact Nat.le_of_ble_eq_true rfl) ?_
      exact loop x.wn 0 (by omega)
    rcases e67 with e | e
    · subst e
      refine r_tabIn C 108 rfl (by decide) (by decide) rfl (by decide) ?_
      exact go 11 (Or.inl rfl) rfl ⟨fun _ => rfl, fun _ => rfl⟩
    · subst e
      refine r_tabIn C 108 rfl (by decide) (by decide) rfl (by decide) ?_
      exact go 12 (Or.inr rfl) rfl ⟨fun q => absurd q (by decide), fun q => absurd q (by decide)⟩
  have ea : countA x z = (1, 0) := by rw [countA, if_neg (by rw [h]; decide), if_neg e0, if_neg e1, if_neg e2, if_neg e3, if_neg e4, if_neg e5, if_neg (fun q => e67 (Or.inl q)), if_neg (fun q => e67 (Or.inr q))]
  refine r_tabOut C 147 rfl ?_ (by decide) ?_
  · by_cases q : z.toInt < 0
    · exact Or.inl q
    · right
      refine Int.not_le.mp (fun q2 => ?_)
      rcases (show z.toInt = (0 : Nat) ∨ z.toInt = (1 : Nat) ∨ z.toInt = (2 : Nat) ∨ z.toInt = (3 : Nat) ∨ z.toInt = (4 : Nat) ∨ z.toInt = (5 : Nat) ∨ z.toInt = (6 : Nat) ∨ z.toInt = (7 : Nat) by omega) with y | y | y | y | y | y | y | y
      · exact e0 (z_is (by omega) y)
      · exact e1 (z_is (by omega) y)
      · exact e2 (z_is (by omega) y)
      · exact e3 (z_is (by omega) y)
      · exact e4 (z_is (by omega) y)
      · exact e5 (z_is (by omega) y)
      · exact e67 (Or.inl (z_is (by omega) y))
      · exact e67 (Or.inr (z_is (by omega) y))
  refine r_aload_n C 0 rfl rfl rfl rfl ?_
  refine r_ic (v := nI 1) C rfl (by decide) ?_
  refine v1_r C rfl mfX12_fail lk_X12_208 (by assumption) (c_fail hM (nI 1)) ?_
  exact q_iret C hQ rfl rfl rfl ⟨rfl, rfl, by rw [ea]; rfl, by rw [ea, up_same], hR1.c0 hV _, fun k hk => by rw [up_row _ _ (by omega)]; exact lo1 k hk⟩
theorem m_water (hM : MO Sh N o) {x : Int32} (hx : x = nI r) (hr : r < 36) (hO : OK b R) (a : Ag (mrow M o r) R) : Con E mX12_waterIn 2 0 0 [.ref o, .int x] Sh N G M (P1 (some (.int (wat R (dpo R) 0 (mno R)))) Sh N M) nox := by
  have hX := hO.ag a.symm
  have h := s_waterIn (E := E) (G := G) hM (M := M) (R := mrow M o r) (dpo (mrow M o r)) (mno (mrow M o r)) hX.wf hx hr
  rw [mset_self, ag_wat a (by omega) hX.dp.2] at h
  rw [a.dp, a.mn]
  exact h
def wallV (R : Row) (n : Nat) : Int32 := if n = 9 then wat R (dpo R) 0 (mno R) else if n < 9 then R n else R (n - 1)
/-- what 'wall' answers -/
def wallA (x : ST) (p q : Int32) : Nat × Int32 := if isW p x.wn = false ∨ inI q 0 (nI 11) = false then (1, 0) else (0, wallV (x.Rw p.toNatClampNeg) q.toNatClampNeg)
theorem R_wall (hM : MO Sh N o) {x : ST} (hV : VI b x) (hR : RI M o x) (p q : Int32) : Con E mX12_wall 3 0 0 [.ref o, .int p, .int q] Sh N G M (PR Sh N (RQ M o (wallA x p q).2 (wallA x p q).1 x)) nox := by
  have h0 := hM.1
  have hw4 := hV.1
  refine Con.ofQ (by decide +kernel) (by simp [Value.category]) (Nat.le_of_ble_eq_true rfl) (fun k C0 Q hQ => ?_)
  have C : CK k E mX12_wall kdX12_wall 3 0 0 := ⟨C0, kdX12_wall_ok⟩
  refine r_aload_n C 0 rfl rfl rfl rfl ?_
  refine r_ic (v := nI 0) C rfl (by decide) ?_
  refine r_puti C rfl f_X12_90 (by assumption) rfl rfl rfl ?_
  obtain ⟨M1, hM1, hR1, c0, lo1⟩ := hR.c0' hV
  rw [← hM1]
  have bad : (isW p x.wn = false ∨ inI q 0 (nI 11) = false) → PT k E Q 0 0 Sh N G M1 23 [some (.ref o), some (.int p), some (.int q)] [] := by
    intro h
    have ea : wallA x p q = (1, 0) := by rw [wallA, if_pos h]
    refine r_aload_n C 0 rfl rfl rfl rfl ?_
    refine r_ic (v := nI 1) C rfl (by decide) ?_
    refine v1_r C rfl mfX12_fail lk_X12_208 (by assumption) (c_fail hM (nI 1)) ?_
    exact q_iret C hQ rfl rfl rfl ⟨rfl, rfl, by rw [ea]; rfl, by rw [ea, up_same], hR1.c0 hV _, fun k hk => by rw [up_row _ _ (by omega)]; exact lo1 k hk⟩
  refine r_aload_n C 0 rfl rfl rfl rfl ?_
  refine r_iload_n C 1 rfl rfl rfl ?_
  refine v1_r C rfl mfX12_isWall lk_X12_244 (by assumption) (c_isWall hM hR1.1.1 p) ?_
  refine r_if_eq C 23 rfl (by decide) (fun h => bad (Or.inl (bI_0 h))) (fun hp => ?_)
  have hp := bI_1 hp
  refine r_iload_n C 2 rfl rfl rfl ?_
  refine r_ic (v := nI 0) C rfl (by decide) ?_
  refine r_bi (v := nI 11) C rfl (by decide) ?_
  refine s3_r C rfl mfX12_isIn lk_X12_96 (c_X12_isIn q (nI 0) (nI 11)) ?_
  rw [inI_if]
  refine r_if_ne C 29 rfl (by decide) (fun hq => ?_) (fun h => bad (Or.inr (bI_0 h)))
  have hq : inI q 0 (nI 11) = true := bI_1 hq
  obtain ⟨w, hw, rfl⟩ := (isW_iff (by omega)).mp hp
  obtain ⟨n, -, hn, rfl⟩ := (inI_iff (a := 0) (by decide) (by decide)).mp hq
  have ea : wallA x (nI w) (nI n) = (0, wallV (x.Rw w) n) := by
    rw [wallA, if_neg (by rintro (z | z); rw [hp] at z; cases z; rw [show inI (nI n) 0 (nI 11) = true from hq] at z; cases z), nI_clamp (by omega), nI_clamp (by omega)]
  rw [ea] at hQ
  have aw := hR1.1.2.2 w hw
  have ow := hV.ow hw
  refine r_iload_n C 2 rfl rfl rfl ?_
  refine r_bi (v := nI 9) C rfl (by decide) ?_
  refine r_icmp_ne C 43 rfl (by decide) (fun h => ?_) (fun h => ?_)
  rotate_left
  · have h := (nI_eq (by omega) (by omega)).mp h
    refine r_aload_n C 0 rfl rfl rfl rfl ?_
    refine r_iload_n C 1 rfl rfl rfl ?_
    refine v1_r C rfl mfX12_waterIn lk_X12_247 (by assumption) (m_water hM rfl (by omega) ow aw) ?_
    refine r_goto C 66 rfl (by decide) ?_
    exact q_iret C hQ rfl rfl rfl ⟨rfl, rfl, by rw [wallV, if_pos h], c0, hR1, lo1⟩
  have h : n ≠ 9 := fun z => h (by rw [z])
  refine r_iload_n C 2 rfl rfl rfl ?_
  refine r_bi (v := nI 9) C rfl (by decide) ?_
  refine r_icmp_ge C 58 rfl (by decide) (fun h2 => ?_) (fun h2 => ?_)
  · have h2 := le_nI (by omega) (by omega) h2
    refine r_aload_n C 0 rfl rfl rfl rfl ?_
    refine r_iload_n C 1 rfl rfl rfl ?_
    refine r_iload_n C 2 rfl rfl rfl ?_
    refine r_ic (v := nI 1) C rfl (by decide) ?_
    refine r_isub C rfl ?_
    rw [pk_sub (a := n) (b := 1) (by omega)]
    refine v2_r C rfl mfX12_of lk_X12_238 (by assumption) (m_of hM (n - 1) rfl rfl (by omega) (by omega) aw) ?_
    exact q_iret C hQ rfl rfl rfl ⟨rfl, rfl, by rw [wallV, if_neg h, if_neg (by omega)], c0, hR1, lo1⟩
  · have h2 := nle_nI (by omega) (by omega) h2
    refine r_aload_n C 0 rfl rfl rfl rfl ?_
    refine r_iload_n C 1 rfl rfl rfl ?_
    refine r_iload_n C 2 rfl rfl rfl ?_
    refine v2_r C rfl mfX12_of lk_X12_238 (by assumption) (m_of hM n rfl rfl (by omega) (by omega) aw) ?_
    refine r_goto C 66 rfl (by decide) ?_
    exact q_iret C hQ rfl rfl rfl ⟨rfl, rfl, by rw [wallV, if_neg h, if_pos (by omega)], c0, hR1, lo1⟩
def isL (x : ST) (p q : Int32) : Bool := isW p x.wn && isW q (mno (x.Rw p.toNatClampNeg))
def isC (x : ST) (p q z : Int32) : Bool := isL x p q && isW z (dpo (x.Rw p.toNatClampNeg))
theorem isL_iff {x : ST} (hV : VI b x) {p q : Int32} : isL x p q = true ↔ ∃ w l, w < x.wn ∧ l < mno (x.Rw w) ∧ p = nI w ∧ q = nI l := by
  have hw4 := hV.1
  simp only [isL, Bool.and_eq_true]
  constructor
  · rintro ⟨h1, h2⟩
    obtain ⟨w, hw, rfl⟩ := (isW_iff (by omega)).mp h1
    rw [nI_clamp (by omega)] at h2
    have := (hV.ow hw).mn
    obtain ⟨l, hl, rfl⟩ := (isW_iff (by omega)).mp h2
    exact ⟨w, l, hw, hl, rfl, rfl⟩
  · rintro ⟨w, l, hw, hl, rfl, rfl⟩
    have := (hV.ow hw).mn
    rw [nI_clamp (by omega)]
    exact ⟨isW_nI (by omega) hw, isW_nI (by omega) hl⟩
theorem isC_iff {x : ST} (hV : VI b x) {p q z : Int32} : isC x p q z = true ↔ ∃ w l c, w < x.wn ∧ l < mno (x.Rw w) ∧ c < dpo (x.Rw w) ∧ p = nI w ∧ q = nI l ∧ z = nI c := by
  have hw4 := hV.1
  rw [isC, Bool.and_eq_true, isL_iff hV]
  constructor
  · rintro ⟨⟨w, l, hw, hl, rfl, rfl⟩, h2⟩
    rw [nI_clamp (by omega)] at h2
    have := (hV.ow hw).dp
    obtain ⟨c, hc, rfl⟩ := (isW_iff (by omega)).mp h2
    exact ⟨w, l, c, hw, hl, hc, rfl, rfl, rfl⟩
  · rintro ⟨w, l, c, hw, hl, hc, rfl, rfl, rfl⟩
    have := (hV.ow hw).dp
    refine ⟨⟨w, l, hw, hl, rfl, rfl⟩, ?_⟩
    rw [nI_clamp (by omega)]
    exact isW_nI (by omega) hc
theorem R_isLayer (hM : MO Sh N o) {x : ST} (hV : VI b x) (hR : RI M o x) (p q : Int32) : Con E mX12_isLayer 3 0 0 [.ref o, .int p, .int q] Sh N G M (P1 (some (.int (bI (isL x p q)))) Sh N M) nox := by
  have h0 := hM.1
  have hw4 := hV.1
  refine Con.ofQ (by decide +kernel) (by simp [Value.category]) (Nat.le_of_ble_eq_true rfl) (fun k C0 Q hQ => ?_)
  have C : CK k E mX12_isLayer kdX12_isLayer 3 0 0 := ⟨C0, kdX12_isLayer_ok⟩
  have no : isL x p q = false → PT k E Q 0 0 Sh N G M 28 [some (.ref o), some (.int p), some (.int q)] [] := by
    intro h
    refine r_ic (v := nI 0) C rfl (by decide) ?_
    exact q_iret C hQ rfl rfl rfl ⟨by rw [h]; rfl, rfl, rfl, rfl⟩
  refine r_aload_n C 0 rfl rfl rfl rfl ?_
  refine r_iload_n C 1 rfl rfl rfl ?_
  refine v1_r C rfl mfX12_isWall lk_X12_244 (by assumption) (c_isWall hM hR.1.1 p) ?_
  refine r_if_eq C 28 rfl (by decide) (fun h => no (by rw [isL, bI_0 h, Bool.false_and])) (fun hp => ?_)
  have hp := bI_1 hp
  obtain ⟨w, hw, rfl⟩ := (isW_iff (by omega)).mp hp
  have aw := hR.1.2.2 w hw
  have ow := hV.ow hw
  have e : isL x (nI w) q = isW q (mno (x.Rw w)) := by rw [isL, hp, Bool.true_and, nI_clamp (by omega)]
  refine r_iload_n C 2 rfl rfl rfl ?_
  refine r_ic (v := nI 0) C rfl (by decide) ?_
  refine r_aload_n C 0 rfl rfl rfl rfl ?_
  refine r_iload_n C 1 rfl rfl rfl ?_
  refine r_ic (v := nI 1) C rfl (by decide) ?_
  refine v2_r C rfl mfX12_of lk_X12_238 (by assumption) (m_of hM 1 rfl rfl (by omega) (by decide) aw) ?_
  rw [ow.wf.2.2.2.1]
  refine r_ic (v := nI 1) C rfl (by decide) ?_
  refine r_isub C rfl ?_
  refine s3_r C rfl mfX12_isIn lk_X12_96 (c_X12_isIn q (nI 0) (nI (mno (x.Rw w)) - nI 1)) ?_
  rw [inI_if]
  refine r_if_eq C 28 rfl (by decide) (fun h => no (by rw [e]; exact bI_0 h)) (fun h => ?_)
  refine r_ic (v := nI 1) C rfl (by decide) ?_
  refine r_goto C 29 rfl (by decide) ?_
  exact q_iret C hQ rfl rfl rfl ⟨by rw [e, show isW q (mno (x.Rw w)) = true from bI_1 h]; rfl, rfl, rfl, rfl⟩
theorem R_isCell (hM : MO Sh N o) {x : ST} (hV : VI b x) (hR : RI M o x) (p q z : Int32) : Con E mX12_isCell 4 0 0 [.ref o, .int p, .int q, .int z] Sh N G M (P1 (some (.int (bI (isC x p q z)))) Sh N M) nox := by
  have h0 := hM.1
  have hw4 := hV.1
  refine Con.ofQ (by decide +kernel) (by simp [Value.category]) (Nat.le_of_ble_eq_true rfl) (fun k C0 Q hQ => ?_)
  have C : CK k E mX12_isCell kdX12_isCell 4 0 0 := ⟨C0, kdX12_isCell_ok⟩
  have no : isC x p q z = false → PT k E Q 0 0 Sh N G M 29 [some (.ref o), some (.int p), some (.int q), some (.int z)] [] := by
    intro h
    refine r_ic (v := nI 0) C rfl (by decide) ?_
    exact q_iret C hQ rfl rfl rfl ⟨by rw [h]; rfl, rfl, rfl, rfl⟩
  refine r_aload_n C 0 rfl rfl rfl rfl ?_
  refine r_iload_n C 1 rfl rfl rfl ?_
  refine r_iload_n C 2 rfl rfl rfl ?_
  refine v2_r C rfl mfX12_isLayer lk_X12_250 (by assumption) (R_isLayer hM hV hR p q) ?_
  refine r_if_eq C 29 rfl (by decide) (fun h => no (by rw [isC, bI_0 h, Bool.false_and])) (fun hp => ?_)
  have hp := bI_1 hp
  have e : isC x p q z = isW z (dpo (x.Rw p.toNatClampNeg)) := by rw [isC, hp, Bool.true_and]
  obtain ⟨w, l, hw, hl, rfl, rfl⟩ := (isL_iff hV).mp hp
  rw [nI_clamp (by omega)] at e
  have aw := hR.1.2.2 w hw
  have ow := hV.ow hw
  refine r_iload_n C 3 rfl rfl rfl ?_
  refine r_ic (v := nI 0) C rfl (by decide) ?_
  refine r_aload_n C 0 rfl rfl rfl rfl ?_
  refine r_iload_n C 1 rfl rfl rfl ?_
  refine r_ic (v := nI 0) C rfl (by decide) ?_
  refine v2_r C rfl mfX12_of lk_X12_238 (by assumption) (m_of hM 0 rfl rfl (by omega) (by decide) aw) ?_
  rw [ow.wf.1]
  refine r_ic (v := nI 1) C rfl (by decide) ?_
  refine r_isub C rfl ?_
  refine s3_r C rfl mfX12_isIn lk_X12_96 (c_X12_isIn z (nI 0) (nI (dpo (x.Rw w)) - nI 1)) ?_
  rw [inI_if]
  refine r_if_eq C 29 rfl (by decide) (fun h => no (by rw [e]; exact bI_0 h)) (fun h => ?_)
  refine r_ic (v := nI 1) C rfl (by decide) ?_
  refine r_goto C 30 rfl (by decide) ?_
  exact q_iret C hQ rfl rfl rfl ⟨by rw [e, show isW z (dpo (x.Rw w)) = true from bI_1 h]; rfl, rfl, rfl, rfl⟩
end RPUB
