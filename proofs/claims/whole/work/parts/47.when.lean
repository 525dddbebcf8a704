section WHEN
def inI (v a b : Int32) : Bool := decide (a ≤ v ∧ v ≤ b)
theorem inI_if (v a b : Int32) : (if a ≤ v ∧ v ≤ b then (1 : Int32) else 0) = bI (inI v a b) := bI_if _
theorem nI_tn {x : Int32} (h : 0 ≤ x.toInt) : nI x.toInt.toNat = x := by
  have hr := fb_rng x
  apply Int32.toInt_inj.mp
  rw [nI_toInt (by omega)]
  omega
theorem inI_iff {x : Int32} {a n : Nat} (ha : a < 2 ^ 30) (hn : n < 2 ^ 30) : inI x (nI a) (nI n) = true ↔ ∃ w, a ≤ w ∧ w ≤ n ∧ x = nI w := by
  simp only [inI, decide_eq_true_eq]
  rw [Int32.le_iff_toInt_le, Int32.le_iff_toInt_le, nI_toInt (by omega), nI_toInt (by omega)]
  constructor
  · rintro ⟨h1, h2⟩
    exact ⟨x.toInt.toNat, by omega, by omega, (nI_tn (by omega)).symm⟩
  · rintro ⟨w, h1, h2, rfl⟩
    rw [nI_toInt (by omega)]
    omega
/-- x is one of the first n -/
def isW (x : Int32) (n : Nat) : Bool := inI x 0 (nI n - nI 1)
theorem isW_iff {x : Int32} {n : Nat} (hn : n < 2 ^ 30) : isW x n = true ↔ ∃ w, w < n ∧ x = nI w := by
  simp only [isW, inI, decide_eq_true_eq]
  rw [Int32.le_iff_toInt_le, Int32.le_iff_toInt_le]
  have e1 : (nI n - nI 1).toInt = n - 1 := by rw [pk_sub_toInt (by omega) (by omega)]; rfl
  have e0 : (0 : Int32).toInt = 0 := rfl
  rw [e1, e0]
  constructor
  · rintro ⟨h1, h2⟩
    exact ⟨x.toInt.toNat, by omega, (nI_tn (by omega)).symm⟩
  · rintro ⟨w, h1, rfl⟩
    rw [nI_toInt (by omega)]
    omega
theorem isW_nI {w n : Nat} (hn : n < 2 ^ 30) (h : w < n) : isW (nI w) n = true := (isW_iff hn).mpr ⟨w, h, rfl⟩
theorem isW_no {x : Int32} {n : Nat} (hn : n < 2 ^ 30) : isW x n = false ↔ (x.toInt < 0 ∨ (n : Int) ≤ x.toInt) := by
  constructor
  · intro h
    by_cases q : x.toInt < 0
    · exact Or.inl q
    · right
      refine Int.not_lt.mp (fun z => ?_)
      rw [(isW_iff hn).mpr ⟨x.toInt.toNat, by omega, (nI_tn (by omega)).symm⟩] at h
      cases h
  · intro h
    cases q : isW x n with
    | false => rfl
    | true =>
      obtain ⟨w, h1, rfl⟩ := (isW_iff hn).mp q
      rw [nI_toInt (by omega)] at h
      omega
variable {E : VE} {Sh : Nat → SE} {N : Nat} {G : Bool} {M : MM} {o r w yd t b w0 fo : Nat} {R : Row} {Y : YD}
theorem c_isWall (hM : MO Sh N o) {n : Nat} (hn : M o 4 = nI n) (x : Int32) : Con E mX12_isWall 2 0 0 [.ref o, .int x] Sh N G M (P1 (some (.int (bI (isW x n)))) Sh N M) nox := by
  have h0 := hM.1
  refine Con.ofQ (by decide +kernel) (by simp [Value.category]) (Nat.le_of_ble_eq_true rfl) (fun k C0 Q hQ => ?_)
  have C : CK k E mX12_isWall kdX12_isWall 2 0 0 := ⟨C0, kdX12_isWall_ok⟩
  refine r_iload_n C 1 rfl rfl rfl ?_
  refine r_ic (v := nI 0) C rfl (by decide) ?_
  refine r_aload_n C 0 rfl rfl rfl rfl ?_
  refine r_geti C rfl f_X12_93 (by assumption) rfl ?_
  rw [hn]
  refine r_ic (v := nI 1) C rfl (by decide) ?_
  refine r_isub C rfl ?_
  refine s3_r C rfl mfX12_isIn lk_X12_96 (c_X12_isIn x (nI 0) (nI n - nI 1)) ?_
  exact q_iret C hQ rfl rfl (by split <;> rfl) ⟨by rw [inI_if]; rfl, rfl, rfl, rfl⟩
theorem c_fail (hM : MO Sh N o) (x : Int32) : Con E mX12_fail 1 0 0 [.ref o, .int x] Sh N G M (P1 (some (.int (nI 0))) Sh N (up M o 0 x)) nox := by
  have h0 := hM.1
  refine Con.ofQ (by decide +kernel) (by simp [Value.category]) (Nat.le_of_ble_eq_true rfl) (fun k C0 Q hQ => ?_)
  have C : CK k E mX12_fail kdX12_fail 1 0 0 := ⟨C0, kdX12_fail_ok⟩
  refine r_aload_n C 0 rfl rfl rfl rfl ?_
  refine r_iload_n C 1 rfl rfl rfl ?_
  refine r_puti C rfl f_X12_90 (by assumption) rfl rfl rfl ?_
  refine r_ic (v := nI 0) C rfl (by decide) ?_
  exact q_iret C hQ rfl rfl rfl ⟨rfl, rfl, rfl, rfl⟩
theorem c_thrown (hM : MO Sh N o) : Con E mX12_thrown 1 0 0 [.ref o] Sh N G M (P1 (some (.int (M o 0))) Sh N M) nox := by
  have h0 := hM.1
  refine Con.ofQ (by decide +kernel) (by simp [Value.category]) (Nat.le_of_ble_eq_true rfl) (fun k C0 Q hQ => ?_)
  have C : CK k E mX12_thrown kdX12_thrown 1 0 0 := ⟨C0, kdX12_thrown_ok⟩
  refine r_aload_n C 0 rfl rfl rfl rfl ?_
  refine r_geti C rfl f_X12_90 (by assumption) rfl ?_
  exact q_iret C hQ rfl rfl rfl ⟨rfl, rfl, rfl, rfl⟩
/-- in how many weeks n layers may be put up: f weeks more are tried, k have gone -/
def whenS (Y : YD) (n : Nat) : Nat → Nat → Row → Int32
  | 0, _, _ => -1
  | f + 1, k, R => if n ≤ hiY Y R then nI k else if wkF Y R = true then -1 else whenS Y n f (k + 1) (wkR Y R)
theorem hiY_le (Y : YD) (R : Row) : hiY Y R ≤ 9 ∧ hiY Y R ≤ 24 - mno R := hiR_le _ _ _ _ _
/-- the forecast's object -/
def FA (Sh : Nat → SE) (N fo yd t w0 : Nat) : Prop := At Sh N fo (.inr (1, [some (.ref yd), some (.ref t), some (.ref w0), some (.ref (w0 + 4))]))
abbrev TS (t k : Nat) : Prop := k = t + 1 ∨ k = t + 2
theorem f_when (hFo : FA Sh N fo yd t w0) (hA : WA Sh N w yd) (hB : WA Sh N w0 yd) (hT : TA Sh N t yd) (hd1 : w + 4 ≤ t) (hd2 : t + 3 ≤ w0) (hY : YC M yd Y) (hF : Y.Fine) (hO : OK b R) (hb : b < 2 ^ 29) (a : Ag (wrow M w) R) {x : Int32} (n : Nat) (hx : x = nI n) (hn : n ≤ 9) :
    Con E mX1_weeksUntil 6 0 0 [.ref fo, .ref w, .int x] Sh N G M (PR Sh N (fun v M' => v = some (.int (whenS Y n 53 0 R)) ∧ Fr (fun k => WS w0 k ∨ TS t k) M M')) nox := by
  subst hx
  have hB' := hB
  obtain ⟨b0, -, -, -, -, b5⟩ := hB
  have t0 := hT.1
  unfold FA at hFo
  have hA5 := hA.2.2.2.2.2
  refine Con.ofQ (by decide +kernel) (by simp [Value.category]) (Nat.le_of_ble_eq_true rfl) (fun k C0 Q hQ => ?_)
  have C : CK k E mX1_weeksUntil kdX1_weeksUntil 6 0 0 := ⟨C0, kdX1_weeksUntil_ok⟩
  generalize hans : whenS Y n 53 0 R = ans at hQ
  have loop : ∀ (f k1 : Nat) (M1 : MM) (R1 : Row), k1 + f = 53 → Fr (fun k => WS w0 k ∨ TS t k) M M1 → OK (b + k1) R1 → Ag (wrow M1 w0) R1 → ans = whenS Y n f k1 R1 → PT k E Q 0 0 Sh N G M1 10 [some (.ref fo), some (.ref w), some (.int (nI n)), some (.int (nI k1))] [] := by
    intro f
    induction f with
    | zero =>
      intro k1 M1 R1 hk hFr hO1 a1 he
      refine r_iload_n C 3 rfl rfl rfl ?_
      refine r_bi (v := nI 52) C rfl (by decide) ?_
      refine r_icmp_gt C 51 rfl (by decide) (fun h => ?_) (fun h => absurd h (by rw [show k1 = 53 by omega]; decide))
      refine r_ic (v := (-1)) C rfl (by decide) ?_
      exact q_iret C hQ rfl rfl rfl ⟨rfl, rfl, by rw [he]; rfl, hFr⟩
    | succ f ih =>
      intro k1 M1 R1 hk hFr hO1 a1 he
      have hY1 : YC M1 yd Y := hY.cong (hFr _ (by omega)) (hFr _ (by omega))
      rw [whenS] at he
      refine r_iload_n C 3 rfl rfl rfl ?_
      refine r_bi (v := nI 52) C rfl (by decide) ?_
      refine r_icmp_gt C 51 rfl (by decide) (fun h => ?_) (fun h => ?_)
      · have h := lt_nI (by omega) (by omega) h
        omega
      refine r_aload_n C 0 rfl rfl rfl rfl ?_
      refine r_getv C rfl f_X1_19 (by assumption) rfl ?_
      refine v0_r C rfl mfX8_roomAbove lk_X1_32 (by assumption) (p_room hB' hY1 hF hO1 a1) ?_
      refine r_iload_n C 2 rfl rfl rfl ?_
      have hh := hiY_le Y R1
      refine r_icmp_lt C 29 rfl (by decide) (fun h2 => ?_) (fun h2 => ?_)
      · have h2 := lt_nI (by omega) (by omega) h2
        rw [if_neg (by omega)] at he
        refine r_aload_n C 0 rfl rfl rfl rfl ?_
        refine r_getv C rfl f_X1_15 (by assumption) rfl ?_
        refine r_aload_n C 0 rfl rfl rfl rfl ?_
        refine r_getv C rfl f_X1_19 (by assumption) rfl ?_
        refine v1_g C rfl mfX9_pass lk_X1_36 (by assumption) (p_pass hB' hT (by omega) hY1 hF hO1 (by omega) a1) ?_
        rintro v M2 ⟨rfl, a2, hFr2⟩
        refine r_if_eq C 45 rfl (by decide) (fun h3 => ?_) (fun h3 => ?_)
        · rw [bI_0 h3, if_neg (by decide)] at he
          refine r_iinc (c := nI 1) C rfl rfl (by decide) ?_
          refine r_goto C 10 rfl (by decide) ?_
          refine r_eqL ?_ (ih (k1 + 1) M2 (wkR Y R1) (by omega) (hFr.trans hFr2 (fun _ q => q) (fun k q => q)) (ok_wk (b := b + k1) hF hO1 (by omega)) a2 he)
          first | rfl | (simp only [sm, add3, nI_add, Int32.add_zero, Int32.zero_add]; rfl)
        · rw [bI_1 h3, if_pos rfl] at he
          refine r_ic (v := (-1)) C rfl (by decide) ?_
          exact q_iret C hQ rfl rfl rfl ⟨rfl, rfl, by rw [he], hFr.trans hFr2 (fun _ q => q) (fun k q => q)⟩
      · have h2 := nlt_nI (by omega) (by omega) h2
        rw [if_pos h2] at he
        refine r_iload_n C 3 rfl rfl rfl ?_
        exact q_iret C hQ rfl rfl rfl ⟨rfl, rfl, by rw [he], hFr⟩
  refine r_aload_n C 0 rfl rfl rfl rfl ?_
  refine r_getv C rfl f_X1_19 (by assumption) rfl ?_
  refine r_aload_n C 1 rfl rfl rfl rfl ?_
  refine v1_g C rfl mfX8_become lk_X1_26 (by assumption) (p_become hB' hA (by omega) hO a) ?_
  rintro v M1 ⟨rfl, a1, hFr1⟩
  refine r_ic (v := nI 0) C rfl (by decide) ?_
  refine r_istore_n C 3 rfl rfl (by exact Nat.le_of_ble_eq_true rfl) ?_
  exact loop 53 0 M1 R rfl (hFr1.mono (fun k q => Or.inl q)) (by rw [Nat.add_zero]; exact hO) a1 hans.symm
/-- what 'when' answers: which is thrown, the number -/
def whenA (Y : YD) (wn : Nat) (Rw : Nat → Row) (x y : Int32) : Nat × Int32 :=
  if isW x wn = false then (1, 0) else if inI y (nI 1) (nI 9) = false then (2, 0) else (0, whenS Y y.toNatClampNeg 53 0 (Rw x.toNatClampNeg))
theorem up_ne_row {o : Nat} (M : MM) (j : Nat) (v : Int32) (r : Nat) : mrow (up M o j v) o r = mrow M o r := by
  funext i
  simp only [mrow]
  rw [up_row M v (by omega)]
theorem YR.up (h : YR M o Y) (j : Nat) (v : Int32) : YR (up M o j v) o Y := h.cong (up_row M v (by omega)) (up_row M v (by omega)) (up_row M v (by omega)) (up_row M v (by omega)) (up_row M v (by omega))
theorem up_up (M : MM) (k j : Nat) (v v' : Int32) : up (up M k j v) k j v' = up M k j v' := by
  funext a c
  by_cases h : a = k ∧ c = j <;> simp [up, h]
theorem m_when (hM : MO Sh N o) {wn : Nat} (hwn : M o 4 = nI wn) (hw4 : wn ≤ 4) (hY : YR M o Y) (hF : Y.Fine) {Rw : Nat → Row} (hO : ∀ i, i < wn → OK b (Rw i)) (hb : b < 2 ^ 29) (a : ∀ i, i < wn → Ag (mrow M o i) (Rw i)) (x y : Int32) :
    Con E mX12_when 8 0 0 [.ref o, .int x, .int y] Sh N G M (PR Sh N (fun v M' => v = some (.int (whenA Y wn Rw x y).2) ∧ FrR o (SB o) (fun r => 12 ≤ r ∧ r < 32) (up M o 0 (nI (whenA Y wn Rw x y).1)) M')) nox := by
  have h0 := hM.1
  refine Con.ofQ (by decide +kernel) (by simp [Value.category]) (Nat.le_of_ble_eq_true rfl) (fun k C0 Q hQ => ?_)
  have C : CK k E mX12_when kdX12_when 8 0 0 := ⟨C0, kdX12_when_ok⟩
  refine r_aload_n C 0 rfl rfl rfl rfl ?_
  refine r_ic (v := nI 0) C rfl (by decide) ?_
  refine r_puti C rfl f_X12_90 (by assumption) rfl rfl rfl ?_
  refine r_aload_n C 0 rfl rfl rfl rfl ?_
  refine r_iload_n C 1 rfl rfl rfl ?_
  refine v1_r C rfl mfX12_isWall lk_X12_244 (by assumption) (c_isWall hM (by rw [up_ne _ _ (by omega)]; exact hwn) x) ?_
  refine r_if_ne C 19 rfl (by decide) (fun h => ?_) (fun h => ?_)
  rotate_left
  · have h := bI_0 h
    have e : whenA Y wn Rw x y = (1, 0) := by rw [whenA, if_pos h]
    refine r_aload_n C 0 rfl rfl rfl rfl ?_
    refine r_ic (v := nI 1) C rfl (by decide) ?_
    refine v1_r C rfl mfX12_fail lk_X12_208 (by assumption) (c_fail hM (nI 1)) ?_
    rw [up_up]
    exact q_iret C hQ rfl rfl rfl ⟨rfl, rfl, by rw [e]; rfl, by rw [e]; exact FrR.rfl⟩
  have h := bI_1 h
  obtain ⟨w, hw, rfl⟩ := (isW_iff (by omega)).mp h
  refine r_iload_n C 2 rfl rfl rfl ?_
  refine r_ic (v := nI 1) C rfl (by decide) ?_
  refine r_bi (v := nI 9) C rfl (by decide) ?_
  refine s3_r C rfl mfX12_isIn lk_X12_96 (c_X12_isIn y (nI 1) (nI 9)) ?_
  rw [inI_if]
  refine r_if_ne C 35 rfl (by decide) (fun h2 => ?_) (fun h2 => ?_)
  rotate_left
  · have h2 := bI_0 h2
    have e : whenA Y wn Rw (nI w) y = (2, 0) := by rw [whenA, if_neg (by rw [h]; decide), if_pos h2]
    refine r_aload_n C 0 rfl rfl rfl rfl ?_
    refine r_ic (v := nI 2) C rfl (by decide) ?_
    refine v1_r C rfl mfX12_fail lk_X12_208 (by assumption) (c_fail hM (nI 2)) ?_
    rw [up_up]
    exact q_iret C hQ rfl rfl rfl ⟨rfl, rfl, by rw [e]; rfl, by rw [e]; exact FrR.rfl⟩
  have h2 := bI_1 h2
  obtain ⟨n, hn1, hn9, rfl⟩ := (inI_iff (by decide) (by decide)).mp h2
  have e : whenA Y wn Rw (nI w) (nI n) = (0, whenS Y n 53 0 (Rw w)) := by
    rw [whenA, if_neg (by rw [h]; decide), if_neg (by rw [h2]; decide), nI_clamp (by omega), nI_clamp (by omega)]
  rw [e] at hQ
  obtain ⟨M0, hM0⟩ : ∃ M0, M0 = up M o 0 (nI 0) := ⟨_, rfl⟩
  rw [← hM0]
  have hQ : Q = QM k E 0 0 Sh N G M (PR Sh N (fun v M' => v = some (.int (whenS Y n 53 0 (Rw w))) ∧ FrR o (SB o) (fun r => 12 ≤ r ∧ r < 32) M0 M')) nox := by rw [hM0]; exact hQ
  generalize hans : whenS Y n 53 0 (Rw w) = ans at hQ
  have a0 : ∀ i, i < wn → Ag (mrow M0 o i) (Rw i) := fun i hi => by rw [hM0, up_ne_row]; exact a i hi
  have hY0 : YR M0 o Y := by rw [hM0]; exact hY.up _ _
  have loop : ∀ (f k1 : Nat) (M1 : MM) (R1 : Row), k1 + f = 53 → FrR o (SB o) (fun r => 12 ≤ r ∧ r < 32) M0 M1 → OK (b + k1) R1 → Ag (mrow M1 o 12) R1 → ((R1 9 = Rw w 9 ∧ ans = whenS Y n f k1 R1) ∨ (Rw w 9 < R1 9 ∧ ans = -1)) → PT k E Q 0 0 Sh N G M1 44 [some (.ref o), some (.int (nI w)), some (.int (nI n)), some (.int (nI k1))] [] := by
    intro f
    induction f with
    | zero =>
      intro k1 M1 R1 hk hFr hO1 a1 he
      refine r_iload_n C 3 rfl rfl rfl ?_
      refine r_bi (v := nI 52) C rfl (by decide) ?_
      refine r_icmp_gt C 94 rfl (by decide) (fun h => ?_) (fun h => absurd h (by rw [show k1 = 53 by omega]; decide))
      refine r_ic (v := (-1)) C rfl (by decide) ?_
      refine q_iret C hQ rfl rfl rfl ⟨rfl, rfl, ?_, hFr⟩
      rcases he with he | he
      · rw [he.2]; rfl
      · rw [he.2]
    | succ f ih =>
      intro k1 M1 R1 hk hFr hO1 a1 he
      have hY1 : YR M1 o Y := hY0.fr hFr (fun k q z => by simp only [SB] at z; omega)
      have aw : Ag (mrow M1 o w) (Rw w) := hFr.row (by omega) (by omega) (a0 w hw) (hO w hw).mn
      refine r_iload_n C 3 rfl rfl rfl ?_
      refine r_bi (v := nI 52) C rfl (by decide) ?_
      refine r_icmp_gt C 94 rfl (by decide) (fun h => ?_) (fun h => ?_)
      · have h := lt_nI (by omega) (by omega) h
        omega
      refine r_aload_n C 0 rfl rfl rfl rfl ?_
      refine r_bi (v := nI 12) C rfl (by decide) ?_
      refine r_bi (v := nI 9) C rfl (by decide) ?_
      refine v2_r C rfl mfX12_of lk_X12_238 (by assumption) (m_of hM 9 rfl rfl (by decide) (by decide) a1) ?_
      refine r_aload_n C 0 rfl rfl rfl rfl ?_
      refine r_iload_n C 1 rfl rfl rfl ?_
      refine r_bi (v := nI 9) C rfl (by decide) ?_
      refine v2_r C rfl mfX12_of lk_X12_238 (by assumption) (m_of hM 9 rfl rfl (by omega) (by decide) aw) ?_
      refine r_icmp_le C 70 rfl (by decide) (fun h2 => ?_) (fun h2 => ?_)
      rotate_left
      · have h2 := Int32.not_le.mp h2
        rcases he with he | he
        · rw [he.1] at h2; exact (Int32.lt_irrefl h2).elim
        refine r_ic (v := (-1)) C rfl (by decide) ?_
        exact q_iret C hQ rfl rfl rfl ⟨rfl, rfl, by rw [he.2], hFr⟩
      rcases he with he | he
      rotate_left
      · exact absurd he.1 (Int32.not_lt.mpr h2)
      obtain ⟨e9, he⟩ := he
      rw [whenS] at he
      refine r_aload_n C 0 rfl rfl rfl rfl ?_
      refine r_bi (v := nI 12) C rfl (by decide) ?_
      refine v1_g C rfl mfX12_highOf lk_X12_322 (by assumption) (m_high hM rfl (by decide) hY1 hO1 a1) ?_
      rintro v M2 ⟨rfl, hFr2⟩
      have hh := hiY_le Y R1
      refine r_iload_n C 2 rfl rfl rfl ?_
      have hFr3 : FrR o (SB o) (fun r => 12 ≤ r ∧ r < 32) M0 M2 := hFr.trans hFr2 (fun _ q => q) (fun _ q => q.elim) (fun _ q => q) (fun _ q => by omega)
      have a2 : Ag (mrow M2 o 12) R1 := hFr2.row (by decide) (by decide) a1 hO1.mn
      refine r_icmp_lt C 82 rfl (by decide) (fun h3 => ?_) (fun h3 => ?_)
      · have h3 := lt_nI (by omega) (by omega) h3
        rw [if_neg (by omega)] at he
        have hY2 : YR M2 o Y := hY0.fr hFr3 (fun k q z => by simp only [SB] at z; omega)
        refine r_aload_n C 0 rfl rfl rfl rfl ?_
        refine r_bi (v := nI 12) C rfl (by decide) ?_
        refine v1_g C rfl mfX12_week lk_X12_317 (by assumption) (m_week hM rfl (by decide) hY2 hF hO1 (by omega) a2) ?_
        rintro v M3 ⟨rfl, a3, hFr4⟩
        refine r_iinc (c := nI 1) C rfl rfl (by decide) ?_
        refine r_goto C 44 rfl (by decide) ?_
        refine r_eqL ?_ (ih (k1 + 1) M3 (wkR Y R1) (by omega) (hFr3.trans hFr4 (fun _ q => q) (fun _ q => q) (fun _ q => q) (fun _ q => by omega)) (ok_wk (b := b + k1) hF hO1 (by omega)) a3 ?_)
        · first | rfl | (simp only [sm, add3, nI_add, Int32.add_zero, Int32.zero_add]; rfl)
        · have h9 := wk_9 hO1 hF
          cases q : wkF Y R1 with
          | false =>
            rw [q, if_neg (by decide)] at he h9
            exact Or.inl ⟨h9.trans e9, he⟩
          | true =>
            rw [q, if_pos rfl] at he h9
            refine Or.inr ⟨?_, he⟩
            rw [h9, ← e9]
            have hf := hO1.fel
            rw [hf.2, nI_add]
            exact (nI_ltI (by omega) (by omega)).mpr (by omega)
      · have h3 := nlt_nI (by omega) (by omega) h3
        rw [if_pos h3] at he
        refine r_iload_n C 3 rfl rfl rfl ?_
        exact q_iret C hQ rfl rfl rfl ⟨rfl, rfl, by rw [he], hFr3⟩
  refine r_aload_n C 0 rfl rfl rfl rfl ?_
  refine r_iload_n C 1 rfl rfl rfl ?_
  refine r_bi (v := nI 12) C rfl (by decide) ?_
  refine v2_g C rfl mfX12_copy lk_X12_215 (by assumption) (m_copy hM w 12 rfl rfl (by omega) (by decide) (hO w hw).mn (a0 w hw)) ?_
  rintro v M1 ⟨rfl, a1, hFr1⟩
  refine r_ic (v := nI 0) C rfl (by decide) ?_
  refine r_istore_n C 3 rfl rfl (by exact Nat.le_of_ble_eq_true rfl) ?_
  exact loop 53 0 M1 (Rw w) rfl (hFr1.mono (fun _ q => q.elim) (fun _ q => by omega)) (by rw [Nat.add_zero]; exact hO w hw) a1 (Or.inl ⟨rfl, hans.symm⟩)
end WHEN
