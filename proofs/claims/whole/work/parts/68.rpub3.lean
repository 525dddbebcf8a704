section RPUBC
variable {E : VE} {Sh : Nat → SE} {N : Nat} {G : Bool} {M M' : MM} {o r w v yd b : Nat} {R : Row}
/-- what 'weeks' answers -/
def weeksA (x : ST) (p q : Int32) : Nat × Int32 × ST := if isW p x.wn = false then (1, 0, x) else if inI q 0 (nI 520) = false then (2, 0, x) else (0, wkN x.ye q.toNatClampNeg (x.Rw p.toNatClampNeg) 9 - x.Rw p.toNatClampNeg 9, x.row p.toNatClampNeg (wkN x.ye q.toNatClampNeg (x.Rw p.toNatClampNeg)))
theorem R_weeks (hM : MO Sh N o) {x : ST} (hV : VI b x) (hb : b < 2 ^ 28) (hR : RI M o x) (p q : Int32) : Con E mX12_weeks 7 0 0 [.ref o, .int p, .int q] Sh N G M (PR Sh N (RQ M o (weeksA x p q).2.1 (weeksA x p q).1 (weeksA x p q).2.2)) nox := by
  have h0 := hM.1
  have hw4 := hV.1
  have hF : x.ye.Fine := hV.2.1
  refine Con.ofQ (by decide +kernel) (by simp [Value.category]) (Nat.le_of_ble_eq_true rfl) (fun k C0 Q hQ => ?_)
  have C : CK k E mX12_weeks kdX12_weeks 7 0 0 := ⟨C0, kdX12_weeks_ok⟩
  refine r_aload_n C 0 rfl rfl rfl rfl ?_
  refine r_ic (v := nI 0) C rfl (by decide) ?_
  refine r_puti C rfl f_X12_90 (by assumption) rfl rfl rfl ?_
  obtain ⟨M1, hM1, hR1, c0, lo1⟩ := hR.c0' hV
  rw [← hM1]
  refine r_aload_n C 0 rfl rfl rfl rfl ?_
  refine r_iload_n C 1 rfl rfl rfl ?_
  refine v1_r C rfl mfX12_isWall lk_X12_244 (by assumption) (c_isWall hM hR1.1.1 p) ?_
  refine r_if_ne C 19 rfl (by decide) (fun h => ?_) (fun h => ?_)
  rotate_left
  · have h := bI_0 h
    have ea : weeksA x p q = (1, 0, x) := by rw [weeksA, if_pos h]
    refine r_aload_n C 0 rfl rfl rfl rfl ?_
    refine r_ic (v := nI 1) C rfl (by decide) ?_
    refine v1_r C rfl mfX12_fail lk_X12_208 (by assumption) (c_fail hM (nI 1)) ?_
    exact q_iret C hQ rfl rfl rfl ⟨rfl, rfl, by rw [ea]; rfl, by rw [ea, up_same], by rw [ea]; exact hR1.c0 hV _, fun k hk => by rw [up_row _ _ (by omega)]; exact lo1 k hk⟩
  have h := bI_1 h
  obtain ⟨w, hw, rfl⟩ := (isW_iff (by omega)).mp h
  have aw := hR1.1.2.2 w hw
  have ow := hV.ow hw
  refine r_iload_n C 2 rfl rfl rfl ?_
  refine r_ic (v := nI 0) C rfl (by decide) ?_
  refine r_si (v := nI 520) C rfl (by decide) ?_
  refine s3_r C rfl mfX12_isIn lk_X12_96 (c_X12_isIn q (nI 0) (nI 520)) ?_
  rw [inI_if]
  refine r_if_ne C 36 rfl (by decide) (fun h2 => ?_) (fun h2 => ?_)
  rotate_left
  · have h2 : inI q 0 (nI 520) = false := bI_0 h2
    have ea : weeksA x (nI w) q = (2, 0, x) := by rw [weeksA, if_neg (by rw [h]; decide), if_pos h2]
    refine r_aload_n C 0 rfl rfl rfl rfl ?_
    refine r_ic (v := nI 2) C rfl (by decide) ?_
    refine v1_r C rfl mfX12_fail lk_X12_208 (by assumption) (c_fail hM (nI 2)) ?_
    exact q_iret C hQ rfl rfl rfl ⟨rfl, rfl, by rw [ea]; rfl, by rw [ea, up_same], by rw [ea]; exact hR1.c0 hV _, fun k hk => by rw [up_row _ _ (by omega)]; exact lo1 k hk⟩
  have h2 : inI q 0 (nI 520) = true := bI_1 h2
  obtain ⟨n, -, hn, rfl⟩ := (inI_iff (a := 0) (by decide) (by decide)).mp h2
  have ea : weeksA x (nI w) (nI n) = (0, wkN x.ye n (x.Rw w) 9 - x.Rw w 9, x.row w (wkN x.ye n (x.Rw w))) := by rw [weeksA, if_neg (by rw [h]; decide), if_neg (by rw [show inI (nI n) 0 (nI 520) = true from h2]; decide), nI_clamp (by omega), nI_clamp (by omega)]
  rw [ea] at hQ
  refine r_aload_n C 0 rfl rfl rfl rfl ?_
  refine r_iload_n C 1 rfl rfl rfl ?_
  refine r_bi (v := nI 9) C rfl (by decide) ?_
  refine v2_r C rfl mfX12_of lk_X12_238 (by assumption) (m_of hM 9 rfl rfl (by omega) (by decide) aw) ?_
  refine r_istore_n C 3 rfl rfl (by exact Nat.le_of_ble_eq_true rfl) ?_
  have loop : ∀ (m i : Nat) (M2 : MM), i + m = n → FRM o (SB o) (fun r => r = w) (fun _ => False) M1 M2 → Ag (mrow M2 o w) (wkN x.ye i (x.Rw w)) → PT k E Q 0 0 Sh N G M2 47 [some (.ref o), some (.int (nI w)), some (.int (nI n)), some (.int (x.Rw w 9)), some (.int (nI i))] [] := by
    intro m
    induction m with
    | zero =>
      intro i M2 hi hF2 a2
      rw [show i = n by omega] at a2
      refine r_iload C rfl rfl ?_
      refine r_iload_n C 2 rfl rfl rfl ?_
      refine r_icmp_ge C 64 rfl (by decide) (fun _ => ?_) (fun z => absurd ((nI_leI (by omega) (by omega)).mpr (by omega)) z)
      refine r_aload_n C 0 rfl rfl rfl rfl ?_
      refine r_iload_n C 1 rfl rfl rfl ?_
      refine r_bi (v := nI 9) C rfl (by decide) ?_
      refine v2_r C rfl mfX12_of lk_X12_238 (by assumption) (m_of hM 9 rfl rfl (by omega) (by decide) a2) ?_
      refine r_iload_n C 3 rfl rfl rfl ?_
      refine r_isub C rfl ?_
      exact q_iret C hQ rfl rfl rfl ⟨rfl, rfl, rfl, by rw [hF2.2.2 0 (fun q => q)]; exact c0, hR1.row hV hw hF2 (fun c q => by simp only [SB] at q; simp only [SX]; omega) (fun r q => Or.inr q) (fun _ q => q.elim) a2, fun k hk => by rw [hF2.low (fun c q => by simp only [SB] at q; omega) k hk]; exact lo1 k hk⟩
    | succ m ih =>
      intro i M2 hi hF2 a2
      have hY2 : YR M2 o x.ye := hR1.1.2.1.keep hF2 (fun c h1 h2 => by simp only [SB]; omega)
      refine r_iload C rfl rfl ?_
      refine r_iload_n C 2 rfl rfl rfl ?_
      refine r_icmp_ge C 64 rfl (by decide) (fun z => absurd (le_nI (by omega) (by omega) z) (by omega)) (fun _ => ?_)
      refine r_aload_n C 0 rfl rfl rfl rfl ?_
      refine r_iload_n C 1 rfl rfl rfl ?_
      refine v1_g C rfl mfX12_week lk_X12_317 (by assumption) (m_week hM rfl (by omega) hY2 hF (ok_wkN hF ow (i := i) (by omega)) (by omega) a2) ?_
      rintro z M3 ⟨rfl, a3, hFr3⟩
      refine r_iinc (c := nI 1) C rfl rfl (by decide) ?_
      refine r_goto C 47 rfl (by decide) ?_
      refine r_eqL ?_ (ih (i + 1) M3 (by omega) (hF2.trans ((FRM.of hFr3 (by simp only [SB]; omega)).mono (fun _ q => q) (fun _ q => q) (fun _ q => q))) a3)
      first | rfl | (simp only [sm, add3, nI_add, Int32.add_zero, Int32.zero_add]; rfl)
  refine r_ic (v := nI 0) C rfl (by decide) ?_
  refine r_istore C rfl (by exact Nat.le_of_ble_eq_true rfl) ?_
  exact loop n 0 M1 (by omega) FRM.rfl aw
/-- what 'high' answers -/
def highA (x : ST) (p : Int32) : Nat × Int32 := if isW p x.wn = false then (1, 0) else (0, nI (hiY x.ye (x.Rw p.toNatClampNeg)))
theorem R_high (hM : MO Sh N o) {x : ST} (hV : VI b x) (hR : RI M o x) (p : Int32) : Con E mX12_high 8 0 0 [.ref o, .int p] Sh N G M (PR Sh N (RQ M o (highA x p).2 (highA x p).1 x)) nox := by
  have h0 := hM.1
  have hw4 := hV.1
  refine Con.ofQ (by decide +kernel) (by simp [Value.category]) (Nat.le_of_ble_eq_true rfl) (fun k C0 Q hQ => ?_)
  have C : CK k E mX12_high kdX12_high 8 0 0 := ⟨C0, kdX12_high_ok⟩
  refine r_aload_n C 0 rfl rfl rfl rfl ?_
  refine r_ic (v := nI 0) C rfl (by decide) ?_
  refine r_puti C rfl f_X12_90 (by assumption) rfl rfl rfl ?_
  obtain ⟨M1, hM1, hR1, c0, lo1⟩ := hR.c0' hV
  rw [← hM1]
  refine r_aload_n C 0 rfl rfl rfl rfl ?_
  refine r_iload_n C 1 rfl rfl rfl ?_
  refine v1_r C rfl mfX12_isWall lk_X12_244 (by assumption) (c_isWall hM hR1.1.1 p) ?_
  refine r_if_eq C 21 rfl (by decide) (fun h => ?_) (fun h => ?_)
  · have h := bI_0 h
    have ea : highA x p = (1, 0) := by rw [highA, if_pos h]
    refine r_aload_n C 0 rfl rfl rfl rfl ?_
    refine r_ic (v := nI 1) C rfl (by decide) ?_
    refine v1_r C rfl mfX12_fail lk_X12_208 (by assumption) (c_fail hM (nI 1)) ?_
    exact q_iret C hQ rfl rfl rfl ⟨rfl, rfl, by rw [ea]; rfl, by rw [ea, up_same], hR1.c0 hV _, fun k hk => by rw [up_row _ _ (by omega)]; exact lo1 k hk⟩
  have h := bI_1 h
  obtain ⟨w, hw, rfl⟩ := (isW_iff (by omega)).mp h
  have ea : highA x (nI w) = (0, nI (hiY x.ye (x.Rw w))) := by rw [highA, if_neg (by rw [h]; decide), nI_clamp (by omega)]
  rw [ea] at hQ
  refine r_aload_n C 0 rfl rfl rfl rfl ?_
  refine r_iload_n C 1 rfl rfl rfl ?_
  refine v1_g C rfl mfX12_highOf lk_X12_322 (by assumption) (m_high hM rfl (by omega) hR1.1.2.1 (hV.ow hw) (hR1.1.2.2 w hw)) ?_
  rintro z M2 ⟨rfl, hFr2⟩
  have f2 := FRM.of hFr2 (fun q => q)
  refine r_goto C 26 rfl (by decide) ?_
  exact q_iret C hQ rfl rfl rfl ⟨rfl, rfl, rfl, by rw [f2.2.2 0 (fun q => q)]; exact c0, hR1.keep hV (f2.mono (fun _ q => q.elim) (fun r q => by simp only [TX]; omega) (fun _ q => q.elim)), fun k hk => by rw [f2.low (fun _ q => q.elim) k hk]; exact lo1 k hk⟩
/-- what 'work' does -/
def workA (x : ST) (p q : Int32) : Nat × ST := if isW p x.wn = false ∨ inI q 0 (nI 5) = false then (1, x) else (0, x.row p.toNatClampNeg (workR q.toNatClampNeg (x.Rw p.toNatClampNeg)))
theorem R_work (hM : MO Sh N o) {x : ST} (hV : VI b x) (hR : RI M o x) (p q : Int32) : Con E mX12_work 3 0 0 [.ref o, .int p, .int q] Sh N G M (PR Sh N (RQv M o (workA x p q).1 (workA x p q).2)) nox := by
  have h0 := hM.1
  have hw4 := hV.1
  refine Con.ofQ (by decide +kernel) (by simp [Value.category]) (Nat.le_of_ble_eq_true rfl) (fun k C0 Q hQ => ?_)
  have C : CK k E mX12_work kdX12_work 3 0 0 := ⟨C0, kdX12_work_ok⟩
  refine r_aload_n C 0 rfl rfl rfl rfl ?_
  refine r_ic (v := nI 0) C rfl (by decide) ?_
  refine r_puti C rfl f_X12_90 (by assumption) rfl rfl rfl ?_
  obtain ⟨M1, hM1, hR1, c0, lo1⟩ := hR.c0' hV
  rw [← hM1]
  have bad : (isW p x.wn = false ∨ inI q 0 (nI 5) = false) → PT k E Q 0 0 Sh N G M1 22 [some (.ref o), some (.int p), some (.int q)] [] := by
    intro h
    have ea : workA x p q = (1, x) := by rw [workA, if_pos h]
    refine r_aload_n C 0 rfl rfl rfl rfl ?_
    refine r_ic (v := nI 1) C rfl (by decide) ?_
    refine r_puti C rfl f_X12_90 (by assumption) rfl rfl rfl ?_
    exact q_vret C hQ rfl rfl ⟨rfl, rfl, rfl, by rw [ea, up_same], by rw [ea]; exact hR1.c0 hV _, fun k hk => by rw [up_row _ _ (by omega)]; exact lo1 k hk⟩
  refine r_aload_n C 0 rfl rfl rfl rfl ?_
  refine r_iload_n C 1 rfl rfl rfl ?_
  refine v1_r C rfl mfX12_isWall lk_X12_244 (by assumption) (c_isWall hM hR1.1.1 p) ?_
  refine r_if_eq C 22 rfl (by decide) (fun h => bad (Or.inl (bI_0 h))) (fun h => ?_)
  have h := bI_1 h
  refine r_iload_n C 2 rfl rfl rfl ?_
  refine r_ic (v := nI 0) C rfl (by decide) ?_
  refine r_ic (v := nI 5) C rfl (by decide) ?_
  refine s3_r C rfl mfX12_isIn lk_X12_96 (c_X12_isIn q (nI 0) (nI 5)) ?_
  rw [inI_if]
  refine r_if_ne C 28 rfl (by decide) (fun h2 => ?_) (fun h2 => bad (Or.inr (bI_0 h2)))
  have h2 : inI q 0 (nI 5) = true := bI_1 h2
  obtain ⟨w, hw, rfl⟩ := (isW_iff (by omega)).mp h
  obtain ⟨n, -, hn, rfl⟩ := (inI_iff (a := 0) (by decide) (by decide)).mp h2
  have ea : workA x (nI w) (nI n) = (0, x.row w (workR n (x.Rw w))) := by
    rw [workA, if_neg (by rintro (z | z); rw [h] at z; cases z; rw [show inI (nI n) 0 (nI 5) = true from h2] at z; cases z), nI_clamp (by omega), nI_clamp (by omega)]
  rw [ea] at hQ
  refine r_aload_n C 0 rfl rfl rfl rfl ?_
  refine r_iload_n C 1 rfl rfl rfl ?_
  refine r_iload_n C 2 rfl rfl rfl ?_
  refine v2_g C rfl mfX12_doWork lk_X12_331 (by assumption) (m_doWork hM n rfl rfl (by omega) (by omega) (hV.ow hw) (hR1.1.2.2 w hw)) ?_
  rintro z M2 ⟨rfl, a2, hFr2⟩
  have f2 := FRM.of hFr2 (fun q => q)
  exact q_vret C hQ rfl rfl ⟨rfl, rfl, rfl, by rw [f2.2.2 0 (fun q => q)]; exact c0, hR1.row hV hw f2 (fun _ q => q.elim) (fun r q => Or.inr q) (fun _ q => q.elim) a2, fun k hk => by rw [f2.low (fun _ q => q.elim) k hk]; exact lo1 k hk⟩
def listA (y : Option (List Nat)) (p : Int32) : Nat × Int32 := match y with
  | none => (1, 0)
  | some l => if isW p l.length = false then (1, 0) else (0, nI (l.getD p.toNatClampNeg 0))
theorem plI_none (p : Int32) : inI p 0 (plI none - nI 1) = false := by
  apply decide_eq_false
  rintro ⟨h1, h2⟩
  rw [Int32.le_iff_toInt_le] at h1 h2
  have e : (plI none - nI 1).toInt = -2 := rfl
  have e0 : (0 : Int32).toInt = 0 := rfl
  omega
theorem R_planned (hM : MO Sh N o) {x : ST} (hV : VI b x) (hR : RI M o x) (p : Int32) : Con E mX12_planned 2 0 0 [.ref o, .int p] Sh N G M (PR Sh N (RQ M o (listA x.pl p).2 (listA x.pl p).1 x)) nox := by
  have h0 := hM.1
  have h11 : At Sh N (o + 11) (arE 0 5) := hM.ar 10 rfl
  refine Con.ofQ (by decide +kernel) (by simp [Value.category]) (Nat.le_of_ble_eq_true rfl) (fun k C0 Q hQ => ?_)
  have C : CK k E mX12_planned kdX12_planned 2 0 0 := ⟨C0, kdX12_planned_ok⟩
  refine r_aload_n C 0 rfl rfl rfl rfl ?_
  refine r_ic (v := nI 0) C rfl (by decide) ?_
  refine r_puti C rfl f_X12_90 (by assumption) rfl rfl rfl ?_
  obtain ⟨M1, hM1, hR1, c0, lo1⟩ := hR.c0' hV
  rw [← hM1]
  obtain ⟨e25, hl⟩ := hR1.2.2.2.1
  have bad : listA x.pl p = (1, 0) → PT k E Q 0 0 Sh N G M1 28 [some (.ref o), some (.int p)] [] := by
    intro ea
    refine r_aload_n C 0 rfl rfl rfl rfl ?_
    refine r_ic (v := nI 1) C rfl (by decide) ?_
    refine v1_r C rfl mfX12_fail lk_X12_208 (by assumption) (c_fail hM (nI 1)) ?_
    exact q_iret C hQ rfl rfl rfl ⟨rfl, rfl, by rw [ea]; rfl, by rw [ea, up_same], hR1.c0 hV _, fun k hk => by rw [up_row _ _ (by omega)]; exact lo1 k hk⟩
  refine r_iload_n C 1 rfl rfl rfl ?_
  refine r_ic (v := nI 0) C rfl (by decide) ?_
  refine r_aload_n C 0 rfl rfl rfl rfl ?_
  refine r_geti C rfl f_X12_50 (by assumption) rfl ?_
  rw [e25]
  refine r_ic (v := nI 1) C rfl (by decide) ?_
  refine r_isub C rfl ?_
  refine s3_r C rfl mfX12_isIn lk_X12_96 (c_X12_isIn p (nI 0) (plI x.pl - nI 1)) ?_
  rw [inI_if]
  cases hx : x.pl with
  | none =>
    rw [hx] at bad
    refine r_if_eq C 28 rfl (by decide) (fun _ => bad rfl) (fun z => ?_)
    have z : inI p 0 (plI none - nI 1) = true := bI_1 z
    rw [plI_none] at z
    cases z
  | some l =>
    rw [hx] at bad hQ
    obtain ⟨h5, hl⟩ := hl l hx
    refine r_if_eq C 28 rfl (by decide) (fun z => bad (by show (if isW p l.length = false then _ else _) = _; rw [if_pos (show isW p l.length = false from bI_0 z)])) (fun z => ?_)
    have z : isW p l.length = true := bI_1 z
    obtain ⟨i, hi, rfl⟩ := (isW_iff (by omega)).mp z
    have ea : listA (some l) (nI i) = (0, nI (l.getD i 0)) := by show (if isW (nI i) l.length = false then _ else _) = _; rw [if_neg (by rw [z]; decide), nI_clamp (by omega)]
    rw [ea] at hQ
    refine r_aload_n C 0 rfl rfl rfl rfl ?_
    refine r_getv C rfl f_X12_44 (by assumption) rfl ?_
    refine r_iload_n C 1 rfl rfl rfl ?_
    refine r_iald C rfl (by assumption) (i) rfl (by omega) (by decide) ?_
    rw [hl i hi]
    refine r_goto C 33 rfl (by decide) ?_
    exact q_iret C hQ rfl rfl rfl ⟨rfl, rfl, rfl, c0, hR1, lo1⟩
theorem R_ordered (hM : MO Sh N o) {x : ST} (hV : VI b x) (hR : RI M o x) (p : Int32) : Con E mX12_ordered 2 0 0 [.ref o, .int p] Sh N G M (PR Sh N (RQ M o (listA x.od p).2 (listA x.od p).1 x)) nox := by
  have h0 := hM.1
  have h13 : At Sh N (o + 13) (arE 0 6) := hM.ar 12 rfl
  refine Con.ofQ (by decide +kernel) (by simp [Value.category]) (Nat.le_of_ble_eq_true rfl) (fun k C0 Q hQ => ?_)
  have C : CK k E mX12_ordered kdX12_ordered 2 0 0 := ⟨C0, kdX12_ordered_ok⟩
  refine r_aload_n C 0 rfl rfl rfl rfl ?_
  refine r_ic (v := nI 0) C rfl (by decide) ?_
  refine r_puti C rfl f_X12_90 (by assumption) rfl rfl rfl ?_
  obtain ⟨M1, hM1, hR1, c0, lo1⟩ := hR.c0' hV
  rw [← hM1]
  obtain ⟨e25, hl⟩ := hR1.2.2.2.2.1
  have bad : listA x.od p = (1, 0) → PT k E Q 0 0 Sh N G M1 28 [some (.ref o), some (.int p)] [] := by
    intro ea
    refine r_aload_n C 0 rfl rfl rfl rfl ?_
    refine r_ic (v := nI 1) C rfl (by decide) ?_
    refine v1_r C rfl mfX12_fail lk_X12_208 (by assumption) (c_fail hM (nI 1)) ?_
    exact q_iret C hQ rfl rfl rfl ⟨rfl, rfl, by rw [ea]; rfl, by rw [ea, up_same], hR1.c0 hV _, fun k hk => by rw [up_row _ _ (by omega)]; exact lo1 k hk⟩
  refine r_iload_n C 1 rfl rfl rfl ?_
  refine r_ic (v := nI 0) C rfl (by decide) ?_
  refine r_aload_n C 0 rfl rfl rfl rfl ?_
  refine r_geti C rfl f_X12_62 (by assumption) rfl ?_
  rw [e25]
  refine r_ic (v := nI 1) C rfl (by decide) ?_
  refine r_isub C rfl ?_
  refine s3_r C rfl mfX12_isIn lk_X12_96 (c_X12_isIn p (nI 0) (plI x.od - nI 1)) ?_
  rw [inI_if]
  cases hx : x.od with
  | none =>
    rw [hx] at bad
    refine r_if_eq C 28 rfl (by decide) (fun _ => bad rfl) (fun z => ?_)
    have z : inI p 0 (plI none - nI 1) = true := bI_1 z
    rw [plI_none] at z
    cases z
  | some l =>
    rw [hx] at bad hQ
    obtain ⟨h5, hl⟩ := hl l hx
    refine r_if_eq C 28 rfl (by decide) (fun z => bad (by show (if isW p l.length = false then _ else _) = _; rw [if_pos (show isW p l.length = false from bI_0 z)])) (fun z => ?_)
    have z : isW p l.length = true := bI_1 z
    obtain ⟨i, hi, rfl⟩ := (isW_iff (by omega)).mp z
    have ea : listA (some l) (nI i) = (0, nI (l.getD i 0)) := by show (if isW (nI i) l.length = false then _ else _) = _; rw [if_neg (by rw [z]; decide), nI_clamp (by omega)]
    rw [ea] at hQ
    refine r_aload_n C 0 rfl rfl rfl rfl ?_
    refine r_getv C rfl f_X12_53 (by assumption) rfl ?_
    refine r_iload_n C 1 rfl rfl rfl ?_
    refine r_iald C rfl (by assumption) (i) rfl (by omega) (by decide) ?_
    rw [hl i hi]
    refine r_goto C 33 rfl (by decide) ?_
    exact q_iret C hQ rfl rfl rfl ⟨rfl, rfl, rfl, c0, hR1, lo1⟩
/-! the searches, by the state -/
theorem R_when (hM : MO Sh N o) {x : ST} (hV : VI b x) (hb : b < 2 ^ 26) (hR : RI M o x) (p q : Int32) : Con E mX12_when 8 0 0 [.ref o, .int p, .int q] Sh N G M (PR Sh N (RQ M o (whenA x.ye x.wn x.Rw p q).2 (whenA x.ye x.wn x.Rw p q).1 x)) nox := by
  refine Con.post (m_when hM hR.1.1 hV.1 hR.1.2.1 hV.2.1 (fun i hi => hV.ow hi) (by omega) hR.1.2.2 p q) ?_
  rintro v Sh' N' M1 ⟨rfl, rfl, hv, hFr⟩
  obtain ⟨hF, hc⟩ := FRM.code hFr (by simp only [SB]; omega)
  exact ⟨rfl, rfl, hv, hc, hR.keep hV (hF.mono (fun c q => by simp only [SB] at q; simp only [SX]; omega) (fun r q => Or.inr q) (fun j q => Or.inl q)), hF.low (fun c q => by simp only [SB] at q; omega)⟩
theorem R_line (hM : MO Sh N o) {x : ST} (hV : VI b x) (hb : b < 2 ^ 26) (hR : RI M o x) (p q z : Int32) : Con E mX12_line 8 0 0 [.ref o, .int p, .int q, .int z] Sh N G M (PR Sh N (RQ M o (lineA x.ye x.wn x.Rw p q z).2 (lineA x.ye x.wn x.Rw p q z).1 x)) nox := by
  refine Con.post (m_line hM hR.1.1 hV.1 hR.1.2.1 hV.2.1 (fun i hi => hV.ow hi) (by omega) hR.1.2.2 p q z) ?_
  rintro v Sh' N' M1 ⟨rfl, rfl, hv, hFr⟩
  obtain ⟨hF, hc⟩ := FRM.code hFr (by simp only [SB]; omega)
  exact ⟨rfl, rfl, hv, hc, hR.keep hV (hF.mono (fun c q => by simp only [SB] at q; simp only [SX]; omega) (fun r q => Or.inr q) (fun j q => Or.inl q)), hF.low (fun c q => by simp only [SB] at q; omega)⟩
theorem R_turned (hM : MO Sh N o) {x : ST} (hV : VI b x) (hb : b < 2 ^ 26) (hR : RI M o x) (p q n z : Int32) : Con E mX12_turned 8 0 0 [.ref o, .int p, .int q, .int n, .int z] Sh N G M (PR Sh N (RQ M o (turnA x.ye x.wn x.Rw p q n z).2 (turnA x.ye x.wn x.Rw p q n z).1 x)) nox := by
  refine Con.post (m_turned hM hR.1.1 hV.1 hR.1.2.1 hV.2.1 (fun i hi => hV.ow hi) (by omega) hR.1.2.2 p q n z) ?_
  rintro v Sh' N' M1 ⟨rfl, rfl, hv, hFr⟩
  obtain ⟨hF, hc⟩ := FRM.code hFr (by simp only [SB]; omega)
  exact ⟨rfl, rfl, hv, hc, hR.keep hV (hF.mono (fun c q => by simp only [SB] at q; simp only [SX]; omega) (fun r q => Or.inr q) (fun j q => Or.inl q)), hF.low (fun c q => by simp only [SB] at q; omega)⟩
theorem R_plan (hM : MO Sh N o) {x : ST} (hV : VI b x) (hb : b < 2 ^ 26) (hR : RI M o x) (p q : Int32) : Con E mX12_plan 13 0 0 [.ref o, .int p, .int q] Sh N G M (PR Sh N (RQ M o (planI (planA x.ye x.wn x.Rw p q).2) (planA x.ye x.wn x.Rw p q).1 (x.setPl (planK x.pl (planA x.ye x.wn x.Rw p q).2)))) nox := by
  refine Con.post (m_plan hM hR.1.1 hV.1 hR.1.2.1 hV.2.1 (fun i hi => hV.ow hi) (by omega) hR.1.2.2 hR.2.2.2.1 p q) ?_
  rintro v Sh' N' M1 ⟨rfl, rfl, hv, ⟨v25, hFr⟩, hk⟩
  have hF := FRM.of hFr (by simp only [SPP]; omega)
  have hF2 : FRM o (SPP o) (fun r => 12 ≤ r ∧ r < 32) (fun j => j = 0 ∨ j = 25) M M1 := (((FRM.fld M o 0 _).mono (fun _ q => q.elim) (fun _ q => q.elim) (fun _ q => Or.inl q)).trans ((FRM.fld _ o 25 v25).mono (fun _ q => q.elim) (fun _ q => q.elim) (fun _ q => Or.inr q))).trans (hF.mono (fun _ q => q) (fun _ q => q) (fun _ q => q.elim))
  refine ⟨rfl, rfl, hv, ?_, hR.toPl hV (hF2.mono (fun c q => by simp only [SPP] at q; simp only [SX]; omega) (fun r q => Or.inr q) (fun j q => by simp only [JX]; omega)) hk, hF2.low (fun c q => by simp only [SPP] at q; omega)⟩
  rw [hF.2.2 0 (fun q => q), up_ne _ _ (by omega), up_same]
theorem R_order (hM : MO Sh N o) {x : ST} (hV : VI b x) (hb : b < 2 ^ 26) (hR : RI M o x) (p q : Int32) : Con E mX12_order 14 0 0 [.ref o, .int p, .int q] Sh N G M (PR Sh N (RQ M o (orI (orderA x.ye x.wn x.Rw x.od p q).2) (orderA x.ye x.wn x.Rw x.od p q).1 (x.setOd (orK x.od (orderA x.ye x.wn x.Rw x.od p q).2)))) nox := by
  refine Con.post (m_order hM hR.1.1 hV.1 hR.1.2.1 hV.2.1 (fun i hi => hV.ow hi) (by omega) hR.1.2.2 hR.2.2.2.2.1 p q) ?_
  rintro v Sh' N' M1 ⟨rfl, rfl, hv, hFr, hc, hj, hk⟩
  have hF : FRM o (SO2 o) (fun r => 12 ≤ r ∧ r < 32) (fun j => j = 0 ∨ j = 29 ∨ j = 30) M M1 := ⟨fun c _ h2 h3 => hFr.1 c h2 h3, hFr.2, fun j h => hj j (fun z => h (Or.inl z)) (fun z => h (Or.inr (Or.inl z))) (fun z => h (Or.inr (Or.inr z)))⟩
  have hF2 : FRM o (fun c => SX o c ∨ c = o + 13) (fun r => TX r) (fun j => JX j ∨ j = 29) M M1 := ⟨fun c h1 h2 h3 => hF.1 c h1 h2 (fun q => h3 (by simp only [SO2, SB] at q; simp only [SX]; omega)), fun r h1 h2 => hF.2.1 r h1 (fun q => h2 (Or.inr q)), fun j h => hF.2.2 j (fun q => h (by simp only [JX]; omega))⟩
  exact ⟨rfl, rfl, hv, hc, hR.toOd hV hF2 hk, hF2.low (fun c q => by simp only [SX] at q; omega)⟩
theorem R_image (hM : MO Sh N o) {x : ST} (hV : VI b x) (hR : RI M o x) : Con E mX12_image 2 0 0 [.ref o] Sh N G M (PR Sh N (RQv M o 0 (x.setIm true x.Rw x.st))) nox := by
  have h0 := hM.1
  have hw4 := hV.1
  have h9 : At Sh N (o + 9) (arE 0 4) := hM.ar 8 rfl
  have h21 : At Sh N (o + 21) (arE 0 4) := hM.ar 20 rfl
  refine Con.ofQ (by decide +kernel) (by simp [Value.category]) (Nat.le_of_ble_eq_true rfl) (fun k C0 Q hQ => ?_)
  have C : CK k E mX12_image kdX12_image 2 0 0 := ⟨C0, kdX12_image_ok⟩
  refine r_aload_n C 0 rfl rfl rfl rfl ?_
  refine r_ic (v := nI 0) C rfl (by decide) ?_
  refine r_puti C rfl f_X12_90 (by assumption) rfl rfl rfl ?_
  obtain ⟨M1, hM1, hR1, c0, lo1⟩ := hR.c0' hV
  rw [← hM1]
  refine r_aload_n C 0 rfl rfl rfl rfl ?_
  refine r_ic (v := nI 1) C rfl (by decide) ?_
  refine r_puti C rfl f_X12_225 (by assumption) rfl rfl rfl ?_
  obtain ⟨M2, hM2⟩ : ∃ M2, M2 = up M1 o 40 (nI 1) := ⟨_, rfl⟩
  rw [← hM2]
  have f2 : FRM o (fun c => c = o + 21) (fun r => 8 ≤ r ∧ r < 12) (fun j => j = 40) M1 M2 := by rw [hM2]; exact (FRM.fld M1 o 40 _).mono (fun _ q => q.elim) (fun _ q => q.elim) (fun _ q => q)
  have e40 : M2 o 40 = nI 1 := by rw [hM2, up_same]
  have stat : ∀ (m i : Nat) (M3 : MM), i + m = 4 → FRM o (fun c => c = o + 21) (fun r => 8 ≤ r ∧ r < 12) (fun j => j = 40) M1 M3 → M3 o 40 = nI 1 → (∀ j, j < x.wn → Ag (mrow M3 o (8 + j)) (x.Rw j)) → (∀ j, j < i → M3 (o + 21) j = x.st j) → PT k E Q 0 0 Sh N G M3 37 [some (.ref o), some (.int (nI i))] [] := by
    intro m
    induction m with
    | zero =>
      intro i M3 hi f3 e3 a3 s3
      refine r_iload_n C 1 rfl rfl rfl ?_
      refine r_ic (v := nI 4) C rfl (by decide) ?_
      refine r_icmp_ge C 60 rfl (by decide) (fun _ => ?_) (fun z => absurd ((nI_leI (by omega) (by omega)).mpr (by omega)) z)
      refine q_vret C hQ rfl rfl ⟨rfl, rfl, rfl, by rw [f3.2.2 0 (by omega)]; exact c0, hR1.toIm hV (f3.mono (fun c q => Or.inr q) (fun r q => Or.inr q) (fun j q => Or.inr q)) ⟨e3, fun _ => ⟨a3, fun j hj => s3 j (by omega)⟩⟩, fun k hk => by rw [f3.low (fun c q => by omega) k hk]; exact lo1 k hk⟩
    | succ m ih =>
      intro i M3 hi f3 e3 a3 s3
      refine r_iload_n C 1 rfl rfl rfl ?_
      refine r_ic (v := nI 4) C rfl (by decide) ?_
      refine r_icmp_ge C 60 rfl (by decide) (fun z => absurd (le_nI (by omega) (by omega) z) (by omega)) (fun _ => ?_)
      refine r_aload_n C 0 rfl rfl rfl rfl ?_
      refine r_getv C rfl f_X12_87 (by assumption) rfl ?_
      refine r_iload_n C 1 rfl rfl rfl ?_
      refine r_aload_n C 0 rfl rfl rfl rfl ?_
      refine r_getv C rfl f_X12_34 (by assumption) rfl ?_
      refine r_iload_n C 1 rfl rfl rfl ?_
      refine r_iald C rfl (by assumption) (i) rfl (by omega) (by decide) ?_
      rw [f3.1 (o + 9) (by omega) (by omega) (by omega), hR1.2.2.1 i (by omega)]
      refine r_iast C rfl (by assumption) (i) rfl (by omega) (by decide) ?_
      refine r_iinc (c := nI 1) C rfl rfl (by decide) ?_
      refine r_goto C 37 rfl (by decide) ?_
      refine r_eqL ?_ (ih (i + 1) _ (by omega) (f3.trans ((FRM.cel M3 o (o + 21) i _ (by omega) (by omega)).mono (fun _ q => q) (fun _ q => q.elim) (fun _ q => q.elim))) (by rw [up_row _ _ (by omega)]; exact e3) (fun j hj => ?_) (fun j hj => ?_))
      · first | rfl | (simp only [sm, add3, nI_add, Int32.add_zero, Int32.zero_add]; rfl)
      · have e2 : mrow (up M3 (o + 21) i (x.st i)) o (8 + j) = mrow M3 o (8 + j) := by
          funext d
          simp only [mrow]
          rw [up_row _ _ (show o + 1 ≠ o + 21 by omega)]
        rw [e2]
        exact a3 j hj
      · by_cases e : j = i
        · rw [e, up_same]
        · rw [up_ne _ _ (by omega)]; exact s3 j (by omega)
  have rows : ∀ (m i : Nat) (M3 : MM), i + m = x.wn → FRM o (fun c => c = o + 21) (fun r => 8 ≤ r ∧ r < 12) (fun j => j = 40) M1 M3 → M3 o 40 = nI 1 → (∀ j, j < i → Ag (mrow M3 o (8 + j)) (x.Rw j)) → PT k E Q 0 0 Sh N G M3 12 [some (.ref o), some (.int (nI i))] [] := by
    intro m
    induction m with
    | zero =>
      intro i M3 hi f3 e3 a3
      refine r_iload_n C 1 rfl rfl rfl ?_
      refine r_aload_n C 0 rfl rfl rfl rfl ?_
      refine r_geti C rfl f_X12_93 (by assumption) rfl ?_
      rw [f3.2.2 4 (by omega), hR1.1.1]
      refine r_icmp_ge C 35 rfl (by decide) (fun _ => ?_) (fun z => absurd ((nI_leI (by omega) (by omega)).mpr (by omega)) z)
      refine r_ic (v := nI 0) C rfl (by decide) ?_
      refine r_istore_n C 1 rfl rfl (by exact Nat.le_of_ble_eq_true rfl) ?_
      exact stat 4 0 M3 (by omega) f3 e3 (fun j hj => a3 j (by omega)) (fun j hj => absurd hj (Nat.not_lt_zero j))
    | succ m ih =>
      intro i M3 hi f3 e3 a3
      have oi := hV.ow (show i < x.wn by omega)
      have ai : Ag (mrow M3 o i) (x.Rw i) := (row_ag (f3.2.1 i (by omega) (by omega)) (by rw [← (hR1.1.2.2 i (by omega)).mn]; exact oi.mn)).trans (hR1.1.2.2 i (by omega))
      refine r_iload_n C 1 rfl rfl rfl ?_
      refine r_aload_n C 0 rfl rfl rfl rfl ?_
      refine r_geti C rfl f_X12_93 (by assumption) rfl ?_
      rw [f3.2.2 4 (by omega), hR1.1.1]
      refine r_icmp_ge C 35 rfl (by decide) (fun z => absurd (le_nI (by omega) (by omega) z) (by omega)) (fun _ => ?_)
      refine r_aload_n C 0 rfl rfl rfl rfl ?_
      refine r_iload_n C 1 rfl rfl rfl ?_
      refine r_bi (v := nI 8) C rfl (by decide) ?_
      refine r_iload_n C 1 rfl rfl rfl ?_
      refine r_iadd C rfl ?_
      rw [nI_add]
      refine v2_g C rfl mfX12_copy lk_X12_215 (by assumption) (m_copy hM i (8 + i) rfl rfl (by omega) (by omega) oi.mn ai) ?_
      rintro z M4 ⟨rfl, a4, hFr4⟩
      refine r_iinc (c := nI 1) C rfl rfl (by decide) ?_
      refine r_goto C 12 rfl (by decide) ?_
      refine r_eqL ?_ (ih (i + 1) M4 (by omega) (f3.trans ((FRM.of hFr4 (fun q => q)).mono (fun _ q => q.elim) (fun r q => by omega) (fun _ q => q.elim))) (by rw [hFr4.1 o (by omega) (fun q => q)]; exact e3) (fun j hj => ?_))
      · first | rfl | (simp only [sm, add3, nI_add, Int32.add_zero, Int32.zero_add]; rfl)
      · by_cases e : j = i
        · rw [e]; exact a4
        · exact hFr4.row (by omega) (by omega) (a3 j (by omega)) (hV.ow (show j < x.wn by omega)).mn
  refine r_ic (v := nI 0) C rfl (by decide) ?_
  refine r_istore_n C 1 rfl rfl (by exact Nat.le_of_ble_eq_true rfl) ?_
  exact rows x.wn 0 M2 (by omega) f2 e40 (fun j hj => absurd hj (Nat.not_lt_zero j))
def ST.back (x : ST) : ST := if x.im = true then (x.setRw x.Ri).setSt x.si else x
theorem R_restore (hM : MO Sh N o) {x : ST} (hV : VI b x) (hR : RI M o x) : Con E mX12_restore 2 0 0 [.ref o] Sh N G M (PR Sh N (RQ M o (bI x.im) 0 x.back)) nox := by
  have h0 := hM.1
  have hw4 := hV.1
  have h9 : At Sh N (o + 9) (arE 0 4) := hM.ar 8 rfl
  have h21 : At Sh N (o + 21) (arE 0 4) := hM.ar 20 rfl
  refine Con.ofQ (by decide +kernel) (by simp [Value.category]) (Nat.le_of_ble_eq_true rfl) (fun k C0 Q hQ => ?_)
  have C : CK k E mX12_restore kdX12_restore 2 0 0 := ⟨C0, kdX12_restore_ok⟩
  refine r_aload_n C 0 rfl rfl rfl rfl ?_
  refine r_ic (v := nI 0) C rfl (by decide) ?_
  refine r_puti C rfl f_X12_90 (by assumption) rfl rfl rfl ?_
  obtain ⟨M1, hM1, hR1, c0, lo1⟩ := hR.c0' hV
  rw [← hM1]
  refine r_aload_n C 0 rfl rfl rfl rfl ?_
  refine r_geti C rfl f_X12_225 (by assumption) rfl ?_
  rw [hR1.2.1.1]
  refine r_if_ne C 14 rfl (by decide) (fun h => ?_) (fun h => ?_)
  rotate_left
  · have h := bI_0 h
    refine r_ic (v := nI 0) C rfl (by decide) ?_
    exact q_iret C hQ rfl rfl rfl ⟨rfl, rfl, by rw [h]; rfl, c0, by rw [ST.back, h, if_neg (by decide)]; exact hR1, lo1⟩
  have h := bI_1 h
  obtain ⟨ha, hs⟩ := hR1.2.1.2 h
  have eb : x.back = (x.setRw x.Ri).setSt x.si := by rw [ST.back, if_pos h]
  have om := hV.mi h
  have stat : ∀ (m i : Nat) (M3 : MM), i + m = 4 → FRM o (fun c => c = o + 9) (fun r => r < 4) (fun _ => False) M1 M3 → (∀ j, j < x.wn → Ag (mrow M3 o j) (x.Ri j)) → (∀ j, j < i → M3 (o + 9) j = x.si j) → PT k E Q 0 0 Sh N G M3 41 [some (.ref o), some (.int (nI i))] [] := by
    intro m
    induction m with
    | zero =>
      intro i M3 hi f3 a3 s3
      refine r_iload_n C 1 rfl rfl rfl ?_
      refine r_ic (v := nI 4) C rfl (by decide) ?_
      refine r_icmp_ge C 64 rfl (by decide) (fun _ => ?_) (fun z => absurd ((nI_leI (by omega) (by omega)).mpr (by omega)) z)
      refine r_ic (v := nI 1) C rfl (by decide) ?_
      refine q_iret C hQ rfl rfl rfl ⟨rfl, rfl, by rw [h]; rfl, by rw [f3.2.2 0 (fun q => q)]; exact c0, ?_, fun k hk => by rw [f3.low (fun c q => by omega) k hk]; exact lo1 k hk⟩
      rw [eb]
      exact hR1.toRwSt hV (f3.mono (fun c q => Or.inr q) (fun r q => Or.inr q) (fun j q => q.elim)) ⟨by rw [f3.2.2 4 (fun q => q)]; exact hR1.1.1, hR1.1.2.1.keep f3 (fun c _ _ => by omega), a3⟩ (fun j hj => s3 j (by omega))
    | succ m ih =>
      intro i M3 hi f3 a3 s3
      refine r_iload_n C 1 rfl rfl rfl ?_
      refine r_ic (v := nI 4) C rfl (by decide) ?_
      refine r_icmp_ge C 64 rfl (by decide) (fun z => absurd (le_nI (by omega) (by omega) z) (by omega)) (fun _ => ?_)
      refine r_aload_n C 0 rfl rfl rfl rfl ?_
      refine r_getv C rfl f_X12_34 (by assumption) rfl ?_
      refine r_iload_n C 1 rfl rfl rfl ?_
      refine r_aload_n C 0 rfl rfl rfl rfl ?_
      refine r_getv C rfl f_X12_87 (by assumption) rfl ?_
      refine r_iload_n C 1 rfl rfl rfl ?_
      refine r_iald C rfl (by assumption) (i) rfl (by omega) (by decide) ?_
      rw [f3.1 (o + 21) (by omega) (by omega) (by omega), hs i (by omega)]
      refine r_iast C rfl (by assumption) (i) rfl (by omega) (by decide) ?_
      refine r_iinc (c := nI 1) C rfl rfl (by decide) ?_
      refine r_goto C 41 rfl (by decide) ?_
      refine r_eqL ?_ (ih (i + 1) _ (by omega) (f3.trans ((FRM.cel M3 o (o + 9) i _ (by omega) (by omega)).mono (fun _ q => q) (fun _ q => q.elim) (fun _ q => q.elim))) (fun j hj => ?_) (fun j hj => ?_))
      · first | rfl | (simp only [sm, add3, nI_add, Int32.add_zero, Int32.zero_add]; rfl)
      · have e2 : mrow (up M3 (o + 9) i (x.si i)) o j = mrow M3 o j := by
          funext d
          simp only [mrow]
          rw [up_row _ _ (show o + 1 ≠ o + 9 by omega)]
        rw [e2]
        exact a3 j hj
      · by_cases e : j = i
        · rw [e, up_same]
        · rw [up_ne _ _ (by omega)]; exact s3 j (by omega)
  have rows : ∀ (m i : Nat) (M3 : MM), i + m = x.wn → FRM o (fun c => c = o + 9) (fun r => r < 4) (fun _ => False) M1 M3 → (∀ j, j < i → Ag (mrow M3 o j) (x.Ri j)) → PT k E Q 0 0 Sh N G M3 16 [some (.ref o), some (.int (nI i))] [] := by
    intro m
    induction m with
    | zero =>
      intro i M3 hi f3 a3
      refine r_iload_n C 1 rfl rfl rfl ?_
      refine r_aload_n C 0 rfl rfl rfl rfl ?_
      refine r_geti C rfl f_X12_93 (by assumption) rfl ?_
      rw [f3.2.2 4 (fun q => q), hR1.1.1]
      refine r_icmp_ge C 39 rfl (by decide) (fun _ => ?_) (fun z => absurd ((nI_leI (by omega) (by omega)).mpr (by omega)) z)
      refine r_ic (v := nI 0) C rfl (by decide) ?_
      refine r_istore_n C 1 rfl rfl (by exact Nat.le_of_ble_eq_true rfl) ?_
      exact stat 4 0 M3 (by omega) f3 (fun j hj => a3 j (by omega)) (fun j hj => absurd hj (Nat.not_lt_zero j))
    | succ m ih =>
      intro i M3 hi f3 a3
      have ai : Ag (mrow M3 o (8 + i)) (x.Ri i) := (row_ag (f3.2.1 (8 + i) (by omega) (by omega)) (by rw [← (ha i (by omega)).mn]; exact om i (by omega))).trans (ha i (by omega))
      refine r_iload_n C 1 rfl rfl rfl ?_
      refine r_aload_n C 0 rfl rfl rfl rfl ?_
      refine r_geti C rfl f_X12_93 (by assumption) rfl ?_
      rw [f3.2.2 4 (fun q => q), hR1.1.1]
      refine r_icmp_ge C 39 rfl (by decide) (fun z => absurd (le_nI (by omega) (by omega) z) (by omega)) (fun _ => ?_)
      refine r_aload_n C 0 rfl rfl rfl rfl ?_
      refine r_bi (v := nI 8) C rfl (by decide) ?_
      refine r_iload_n C 1 rfl rfl rfl ?_
      refine r_iadd C rfl ?_
      rw [nI_add]
      refine r_iload_n C 1 rfl rfl rfl ?_
      refine v2_g C rfl mfX12_copy lk_X12_215 (by assumption) (m_copy hM (8 + i) i rfl rfl (by omega) (by omega) (om i (by omega)) ai) ?_
      rintro z M4 ⟨rfl, a4, hFr4⟩
      refine r_iinc (c := nI 1) C rfl rfl (by decide) ?_
      refine r_goto C 16 rfl (by decide) ?_
      refine r_eqL ?_ (ih (i + 1) M4 (by omega) (f3.trans ((FRM.of hFr4 (fun q => q)).mono (fun _ q => q.elim) (fun r q => by omega) (fun _ q => q))) (fun j hj => ?_))
      · first | rfl | (simp only [sm, add3, nI_add, Int32.add_zero, Int32.zero_add]; rfl)
      · by_cases e : j = i
        · rw [e]; exact a4
        · exact hFr4.row (by omega) (by omega) (a3 j (by omega)) (om j (by omega))
  refine r_ic (v := nI 0) C rfl (by decide) ?_
  refine r_istore_n C 1 rfl rfl (by exact Nat.le_of_ble_eq_true rfl) ?_
  exact rows x.wn 0 M1 (by omega) FRM.rfl (fun j hj => absurd hj (Nat.not_lt_zero j))
end RPUBC
