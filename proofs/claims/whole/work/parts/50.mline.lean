section MLINE
variable {E : VE} {Sh : Nat → SE} {N : Nat} {G : Bool} {M : MM} {o r w v yd yv t b w0 fo : Nat} {R : Row} {Y : YD}
theorem m_put (hM : MO Sh N o) {x y v : Int32} (j : Nat) (hx : x = nI r) (hy : y = nI j) (hr : r < 36) (hj : j < 13) (h0 : j ≠ 0) (h1 : j ≠ 1) (a : Ag (mrow M o r) R) (hm : mno R ≤ 24) : Con E mX12_put 1 0 0 [.ref o, .int x, .int y, .int v] Sh N G M (PR Sh N (fun z M' => z = none ∧ Ag (mrow M' o r) (upd R j v) ∧ FrR o (fun _ => False) (fun x => x = r) M M')) nox := by
  have h := s_put (E := E) (G := G) hM (M := M) (R := mrow M o r) (v := v) j hx hy hr (by omega)
  rw [mset_self] at h
  refine Con.post h ?_
  rintro z Sh' N' M1 ⟨rfl, rfl, rfl, hM1⟩
  refine ⟨rfl, rfl, rfl, ?_, by rw [hM1]; exact mset_fr _ _ _ _⟩
  rw [hM1]
  exact (mrow_ag _ _ _ (upd (mrow M o r) j v) (by rw [upd_mn _ _ h1, ← a.mn]; exact hm)).trans (ag_up a v h0 h1)
theorem m_foot (hM : MO Sh N o) (hY : YR M o Y) (hF : Y.Fine) (hO : OK b R) (hb : b < 2 ^ 29) (a : Ag (mrow M o 12) R) {x : Int32} (n : Nat) (hx : x = nI n) (hn : n ≤ 520) :
    Con E mX12_footOf 7 0 0 [.ref o, .int x] Sh N G M (PR Sh N (fun v M' => v = some (.int (pasteS Y n 1 R)) ∧ FrR o (SB o) (fun r => r = 12) M M')) nox := by
  subst hx
  have h0 := hM.1
  refine Con.ofQ (by decide +kernel) (by simp [Value.category]) (Nat.le_of_ble_eq_true rfl) (fun k C0 Q hQ => ?_)
  have C : CK k E mX12_footOf kdX12_footOf 7 0 0 := ⟨C0, kdX12_footOf_ok⟩
  generalize hans : pasteS Y n 1 R = ans at hQ
  have loop : ∀ (f k1 : Nat) (M1 : MM) (R1 : Row), k1 + f = n + 1 → FrR o (SB o) (fun r => r = 12) M M1 → OK (b + (k1 - 1)) R1 → Ag (mrow M1 o 12) R1 → 1 ≤ k1 → ans = pasteS Y f k1 R1 → ∀ v3, PT k E Q 0 0 Sh N G M1 2 [some (.ref o), some (.int (nI n)), some (.int (nI k1)), v3] [] := by
    intro f
    induction f with
    | zero =>
      intro k1 M1 R1 hk hFr hO1 a1 hk1 he v3
      refine r_iload_n C 2 rfl rfl rfl ?_
      refine r_iload_n C 1 rfl rfl rfl ?_
      refine r_icmp_gt C 70 rfl (by decide) (fun h => ?_) (fun h => absurd ((nI_ltI (by omega) (by omega)).mpr (by omega)) h)
      refine r_ic (v := (-1)) C rfl (by decide) ?_
      exact q_iret C hQ rfl rfl rfl ⟨rfl, rfl, by rw [he]; rfl, hFr⟩
    | succ f ih =>
      intro k1 M1 R1 hk hFr hO1 a1 hk1 he v3
      have hY1 : YR M1 o Y := hY.fr hFr (fun k q z => by simp only [SB] at z; omega)
      rw [pasteS] at he
      refine r_iload_n C 2 rfl rfl rfl ?_
      refine r_iload_n C 1 rfl rfl rfl ?_
      refine r_icmp_gt C 70 rfl (by decide) (fun h => ?_) (fun h => ?_)
      · have h := lt_nI (by omega) (by omega) h
        omega
      refine r_aload_n C 0 rfl rfl rfl rfl ?_
      refine r_bi (v := nI 12) C rfl (by decide) ?_
      refine v1_g C rfl mfX12_week lk_X12_317 (by assumption) (m_week hM rfl (by decide) hY1 hF hO1 (by omega) a1) ?_
      rintro v M2 ⟨rfl, a2, hFr2⟩
      have hFr3 : FrR o (SB o) (fun r => r = 12) M M2 := hFr.trans hFr2 (fun _ q => q) (fun _ q => q) (fun _ q => q) (fun _ q => q)
      have hO2 := ok_wk (Y := Y) hF hO1 (by omega)
      obtain ⟨R2, hR2⟩ : ∃ X, X = wkR Y R1 := ⟨_, rfl⟩
      rw [← hR2] at a2 hO2 he
      have hd := hO2.dp
      have hm := hO2.mn
      have inner : ∀ m c : Nat, c ≤ dpo R2 → dpo R2 - c < m → (∀ i, i < c → ¬ nI 180 ≤ R2 (37 + i)) → PT k E Q 0 0 Sh N G M2 15 [some (.ref o), some (.int (nI n)), some (.int (nI k1)), some (.int (nI c))] [] := by
        intro m
        induction m with
        | zero => intro c _ h; omega
        | succ m ihc =>
          intro c hc hnc hno
          have hnext : pst R2 = false → PT k E Q 0 0 Sh N G M2 64 [some (.ref o), some (.int (nI n)), some (.int (nI k1)), some (.int (nI c))] [] := by
            intro hp
            rw [hp, if_neg (by decide)] at he
            refine r_iinc (c := nI 1) C rfl rfl (by decide) ?_
            refine r_goto C 2 rfl (by decide) ?_
            refine r_eqL ?_ (ih (k1 + 1) M2 R2 (by omega) hFr3 (by rw [show b + (k1 + 1 - 1) = b + (k1 - 1) + 1 by omega]; exact hO2) a2 (by omega) he (some (.int (nI c))))
            first | rfl | (simp only [sm, add3, nI_add, Int32.add_zero, Int32.zero_add]; rfl)
          refine r_iload_n C 3 rfl rfl rfl ?_
          refine r_aload_n C 0 rfl rfl rfl rfl ?_
          refine r_bi (v := nI 12) C rfl (by decide) ?_
          refine r_ic (v := nI 0) C rfl (by decide) ?_
          refine v2_r C rfl mfX12_of lk_X12_238 (by assumption) (m_of hM 0 rfl rfl (by decide) (by decide) a2) ?_
          rw [hO2.wf.1]
          refine r_icmp_ge C 64 rfl (by decide) (fun h => hnext ?_) (fun h => ?_)
          · have h := le_nI (by omega) (by omega) h
            simp only [pst, pasteB]
            rw [anyB_false.mpr (fun i hi => decide_eq_false (hno i (by omega))), Bool.and_false]
          have h := nle_nI (by omega) (by omega) h
          refine r_aload_n C 0 rfl rfl rfl rfl ?_
          refine r_bi (v := nI 12) C rfl (by decide) ?_
          refine r_ic (v := nI 1) C rfl (by decide) ?_
          refine v2_r C rfl mfX12_of lk_X12_238 (by assumption) (m_of hM 1 rfl rfl (by decide) (by decide) a2) ?_
          rw [hO2.wf.2.2.2.1]
          refine r_if_le C 64 rfl (by decide) (fun h2 => hnext ?_) (fun h2 => ?_)
          · rw [z0] at h2
            have h2 := le_nI (by omega) (by omega) h2
            have e : decide (0 < mno R2) = false := decide_eq_false (by omega)
            simp only [pst, pasteB]
            rw [e, Bool.false_and]
          rw [z0] at h2
          have h2 := nle_nI (by omega) (by omega) h2
          refine r_aload_n C 0 rfl rfl rfl rfl ?_
          refine r_bi (v := nI 12) C rfl (by decide) ?_
          refine r_bi (v := nI 37) C rfl (by decide) ?_
          refine r_ic (v := nI 0) C rfl (by decide) ?_
          refine r_iload_n C 3 rfl rfl rfl ?_
          refine s2_r C rfl mfX12_at lk_X12_241 (c_X12_at 0 c rfl rfl) ?_
          refine r_iadd C rfl ?_
          refine v2_r C rfl mfX12_of lk_X12_238 (by assumption) (c_X12_of hM 12 (37 + c) rfl (by rw [nI_add, show 6 * 0 + c = c by omega]) (by decide) (by omega)) ?_
          refine r_top (R2 (37 + c)) (a2.2.2 c (by rw [← a2.mn]; omega) (by rw [← a2.dp]; omega)).1 ?_
          refine r_si (v := nI 180) C rfl (by decide) ?_
          refine r_icmp_lt C 58 rfl (by decide) (fun h3 => ?_) (fun h3 => ?_)
          · refine r_iinc (c := nI 1) C rfl rfl (by decide) ?_
            refine r_goto C 15 rfl (by decide) ?_
            refine r_eqL ?_ (ihc (c + 1) (by omega) (by omega) (fun i hi => ?_))
            · first | rfl | (simp only [sm, add3, nI_add, Int32.add_zero, Int32.zero_add]; rfl)
            · by_cases e : i = c
              · rw [e]; exact Int32.not_le.mpr h3
              · exact hno i (by omega)
          · have hp : pst R2 = true := by
              simp only [pst, pasteB]
              rw [decide_eq_true h2, anyB_of (i := c) h (decide_eq_true (Int32.not_lt.mp h3))]
              rfl
            rw [hp, if_pos rfl] at he
            refine r_iload_n C 2 rfl rfl rfl ?_
            exact q_iret C hQ rfl rfl rfl ⟨rfl, rfl, by rw [he], hFr3⟩
      refine r_ic (v := nI 0) C rfl (by decide) ?_
      refine r_istore_n C 3 rfl rfl (by exact Nat.le_of_ble_eq_true rfl) ?_
      exact inner (dpo R2 + 1) 0 (by omega) (by omega) (fun i hi => by omega)
  refine r_ic (v := nI 1) C rfl (by decide) ?_
  refine r_istore_n C 2 rfl rfl (by exact Nat.le_of_ble_eq_true rfl) ?_
  exact loop n 1 M R (by omega) FrR.rfl (by rw [Nat.sub_self, Nat.add_zero]; exact hO) a (by omega) hans.symm none
/-- what is asked of a wall: which, so many weeks -/
def lineX (z k : Nat) (R : Row) : Row := if z = 0 then upd R 3 (nI k) else if z = 1 then upd R 5 (nI (10 * k)) else R
def lineV (Y : YD) (n z : Nat) (R : Row) : Int32 := if z = 0 then lnS (fun k => pasteS Y n 1 (upd R 3 (nI k))) nI 0 4 else if z = 1 then lnS (fun k => pasteS Y n 1 (upd R 5 (nI (10 * k)))) (fun k => nI (10 * k)) 0 11 else pasteS Y n 1 R
/-- what 'line' answers -/
def lineA (Y : YD) (wn : Nat) (Rw : Nat → Row) (x y z : Int32) : Nat × Int32 :=
  if isW x wn = false ∨ inI z 0 (nI 2) = false then (1, 0) else if inI y (nI 1) (nI 520) = false then (2, 0) else (0, lineV Y y.toNatClampNeg z.toNatClampNeg (Rw x.toNatClampNeg))
theorem m_line (hM : MO Sh N o) {wn : Nat} (hwn : M o 4 = nI wn) (hw4 : wn ≤ 4) (hY : YR M o Y) (hF : Y.Fine) {Rw : Nat → Row} (hO : ∀ i, i < wn → OK b (Rw i)) (hb : b < 2 ^ 29) (a : ∀ i, i < wn → Ag (mrow M o i) (Rw i)) (x y z : Int32) :
    Con E mX12_line 8 0 0 [.ref o, .int x, .int y, .int z] Sh N G M (PR Sh N (fun v M' => v = some (.int (lineA Y wn Rw x y z).2) ∧ FrR o (SB o) (fun r => 12 ≤ r ∧ r < 32) (up M o 0 (nI (lineA Y wn Rw x y z).1)) M')) nox := by
  have h0 := hM.1
  refine Con.ofQ (by decide +kernel) (by simp [Value.category]) (Nat.le_of_ble_eq_true rfl) (fun k C0 Q hQ => ?_)
  have C : CK k E mX12_line kdX12_line 8 0 0 := ⟨C0, kdX12_line_ok⟩
  have bad : (isW x wn = false ∨ inI z 0 (nI 2) = false) → PT k E Q 0 0 Sh N G (up M o 0 (nI 0)) 22 [some (.ref o), some (.int x), some (.int y), some (.int z), none, none, none] [] := by
    intro h
    have e : lineA Y wn Rw x y z = (1, 0) := by rw [lineA, if_pos h]
    refine r_aload_n C 0 rfl rfl rfl rfl ?_
    refine r_ic (v := nI 1) C rfl (by decide) ?_
    refine v1_r C rfl mfX12_fail lk_X12_208 (by assumption) (c_fail hM (nI 1)) ?_
    rw [up_up]
    exact q_iret C hQ rfl rfl rfl ⟨rfl, rfl, by rw [e]; rfl, by rw [e]; exact FrR.rfl⟩
  refine r_aload_n C 0 rfl rfl rfl rfl ?_
  refine r_ic (v := nI 0) C rfl (by decide) ?_
  refine r_puti C rfl f_X12_90 (by assumption) rfl rfl rfl ?_
  refine r_aload_n C 0 rfl rfl rfl rfl ?_
  refine r_iload_n C 1 rfl rfl rfl ?_
  refine v1_r C rfl mfX12_isWall lk_X12_244 (by assumption) (c_isWall hM (by rw [up_ne _ _ (by omega)]; exact hwn) x) ?_
  refine r_if_eq C 22 rfl (by decide) (fun h => bad (Or.inl (bI_0 h))) (fun h => ?_)
  have h := bI_1 h
  refine r_iload_n C 3 rfl rfl rfl ?_
  refine r_ic (v := nI 0) C rfl (by decide) ?_
  refine r_ic (v := nI 2) C rfl (by decide) ?_
  refine s3_r C rfl mfX12_isIn lk_X12_96 (c_X12_isIn z (nI 0) (nI 2)) ?_
  rw [inI_if]
  refine r_if_ne C 28 rfl (by decide) (fun hz => ?_) (fun hz => bad (Or.inr (bI_0 hz)))
  have hz := bI_1 hz
  obtain ⟨w, hw, rfl⟩ := (isW_iff (by omega)).mp h
  obtain ⟨z, -, hz2, rfl⟩ := (inI_iff (a := 0) (by decide) (by decide)).mp hz
  refine r_iload_n C 2 rfl rfl rfl ?_
  refine r_ic (v := nI 1) C rfl (by decide) ?_
  refine r_si (v := nI 520) C rfl (by decide) ?_
  refine s3_r C rfl mfX12_isIn lk_X12_96 (c_X12_isIn y (nI 1) (nI 520)) ?_
  rw [inI_if]
  refine r_if_ne C 45 rfl (by decide) (fun h2 => ?_) (fun h2 => ?_)
  rotate_left
  · have h2 := bI_0 h2
    have e : lineA Y wn Rw (nI w) y (nI z) = (2, 0) := by rw [lineA, if_neg (fun q => by rcases q with q | q; rw [h] at q; cases q; rw [show inI (nI z) 0 (nI 2) = true from hz] at q; cases q), if_pos h2]
    refine r_aload_n C 0 rfl rfl rfl rfl ?_
    refine r_ic (v := nI 2) C rfl (by decide) ?_
    refine v1_r C rfl mfX12_fail lk_X12_208 (by assumption) (c_fail hM (nI 2)) ?_
    rw [up_up]
    exact q_iret C hQ rfl rfl rfl ⟨rfl, rfl, by rw [e]; rfl, by rw [e]; exact FrR.rfl⟩
  have h2 := bI_1 h2
  obtain ⟨n, hn1, hn5, rfl⟩ := (inI_iff (by decide) (by decide)).mp h2
  have e : lineA Y wn Rw (nI w) (nI n) (nI z) = (0, lineV Y n z (Rw w)) := by
    rw [lineA, if_neg (fun q => by rcases q with q | q; rw [h] at q; cases q; rw [show inI (nI z) 0 (nI 2) = true from hz] at q; cases q), if_neg (by rw [h2]; decide), nI_clamp (by omega), nI_clamp (by omega), nI_clamp (by omega)]
  rw [e] at hQ
  obtain ⟨M0, hM0⟩ : ∃ M0, M0 = up M o 0 (nI 0) := ⟨_, rfl⟩
  rw [← hM0]
  have hQ : Q = QM k E 0 0 Sh N G M (PR Sh N (fun v M' => v = some (.int (lineV Y n z (Rw w))) ∧ FrR o (SB o) (fun r => 12 ≤ r ∧ r < 32) M0 M')) nox := by rw [hM0]; exact hQ
  have a0 : ∀ i, i < wn → Ag (mrow M0 o i) (Rw i) := fun i hi => by rw [hM0, up_ne_row]; exact a i hi
  have hY0 : YR M0 o Y := by rw [hM0]; exact hY.up _ _
  obtain ⟨Fz, hFz⟩ : ∃ F : Nat → Int32, F = fun i => pasteS Y n 1 (lineX z i (Rw w)) := ⟨_, rfl⟩
  obtain ⟨rz, hrz⟩ : ∃ F : Nat → Int32, F = fun i => if z = 0 then nI i else nI (10 * i) := ⟨_, rfl⟩
  obtain ⟨tz, htz⟩ : ∃ F : Nat, F = if z = 0 then 9 else if z = 1 then 10 else 0 := ⟨_, rfl⟩
  have hans : (z = 2 ∧ lineV Y n z (Rw w) = Fz 0) ∨ (z ≠ 2 ∧ lineV Y n z (Rw w) = lnS Fz rz 0 (tz + 1)) := by
    rcases (show z = 0 ∨ z = 1 ∨ z = 2 by omega) with q | q | q
    · right
      subst q
      refine ⟨by decide, ?_⟩
      rw [lineV, if_pos rfl, ← shoes_few hF (hO w hw) (by omega), htz, if_pos rfl, hFz, hrz]
      rfl
    · right
      subst q
      refine ⟨by decide, ?_⟩
      rw [lineV, if_neg (by decide), if_pos rfl, htz, if_neg (by decide), if_pos rfl, hFz, hrz]
      rfl
    · left
      subst q
      refine ⟨rfl, ?_⟩
      rw [lineV, if_neg (by decide), if_neg (by decide), hFz]
      rfl
  generalize lineV Y n z (Rw w) = ans at hQ hans
  have htz9 : tz ≤ 10 := by rw [htz]; split; omega; split <;> omega
  have loop : ∀ (m i : Nat) (M1 : MM), i + m = tz + 1 → FrR o (SB o) (fun r => 12 ≤ r ∧ r < 32) M0 M1 → ((z = 2 ∧ i = 0 ∧ ans = Fz 0) ∨ (z ≠ 2 ∧ ans = lnS Fz rz i m)) → ∀ v6, PT k E Q 0 0 Sh N G M1 70 [some (.ref o), some (.int (nI w)), some (.int (nI n)), some (.int (nI z)), some (.int (nI tz)), some (.int (nI i)), v6] [] := by
    intro m
    induction m with
    | zero =>
      intro i M1 hi hFr he v6
      refine r_iload C rfl rfl ?_
      refine r_iload C rfl rfl ?_
      refine r_icmp_gt C 156 rfl (by decide) (fun h => ?_) (fun h => absurd ((nI_ltI (by omega) (by omega)).mpr (by omega)) h)
      refine r_ic (v := (-1)) C rfl (by decide) ?_
      refine q_iret C hQ rfl rfl rfl ⟨rfl, rfl, ?_, hFr⟩
      rcases he with he | he
      · omega
      · rw [he.2]; rfl
    | succ m ih =>
      intro i M1 hi hFr he v6
      have aw : Ag (mrow M1 o w) (Rw w) := hFr.row (by omega) (by omega) (a0 w hw) (hO w hw).mn
      refine r_iload C rfl rfl ?_
      refine r_iload C rfl rfl ?_
      refine r_icmp_gt C 156 rfl (by decide) (fun h => ?_) (fun h => ?_)
      · have h := lt_nI (by omega) (by omega) h
        omega
      refine r_aload_n C 0 rfl rfl rfl rfl ?_
      refine r_iload_n C 1 rfl rfl rfl ?_
      refine r_bi (v := nI 12) C rfl (by decide) ?_
      refine v2_g C rfl mfX12_copy lk_X12_215 (by assumption) (m_copy hM w 12 rfl rfl (by omega) (by decide) (hO w hw).mn aw) ?_
      rintro v M2 ⟨rfl, a2, hFr2⟩
      have hFr3 : FrR o (SB o) (fun r => 12 ≤ r ∧ r < 32) M0 M2 := hFr.trans hFr2 (fun _ q => q) (fun _ q => q.elim) (fun _ q => q) (fun _ q => by omega)
      have go : ∀ M3, FrR o (SB o) (fun r => 12 ≤ r ∧ r < 32) M0 M3 → Ag (mrow M3 o 12) (lineX z i (Rw w)) → OK b (lineX z i (Rw w)) → PT k E Q 0 0 Sh N G M3 114 [some (.ref o), some (.int (nI w)), some (.int (nI n)), some (.int (nI z)), some (.int (nI tz)), some (.int (nI i)), v6] [] := by
        intro M3 hFr4 a3 hO3
        have hY3 : YR M3 o Y := hY0.fr hFr4 (fun k q z => by simp only [SB] at z; omega)
        refine r_aload_n C 0 rfl rfl rfl rfl ?_
        refine r_iload_n C 2 rfl rfl rfl ?_
        refine v1_g C rfl mfX12_footOf lk_X12_328 (by assumption) (m_foot hM hY3 hF hO3 hb a3 n rfl (by omega)) ?_
        rintro v M4 ⟨rfl, hFr5⟩
        have hFr6 : FrR o (SB o) (fun r => 12 ≤ r ∧ r < 32) M0 M4 := hFr4.trans hFr5 (fun _ q => q) (fun _ q => q) (fun _ q => q) (fun _ q => by omega)
        have eF : pasteS Y n 1 (lineX z i (Rw w)) = Fz i := by rw [hFz]
        rw [eF]
        refine r_istore C rfl (by exact Nat.le_of_ble_eq_true rfl) ?_
        refine r_iload_n C 3 rfl rfl rfl ?_
        refine r_ic (v := nI 2) C rfl (by decide) ?_
        refine r_icmp_ne C 129 rfl (by decide) (fun h3 => ?_) (fun h3 => ?_)
        rotate_left
        · have h3 := (nI_eq (by omega) (by omega)).mp h3
          rcases he with he | he
          rotate_left
          · exact absurd h3 he.1
          refine r_iload C rfl rfl ?_
          exact q_iret C hQ rfl rfl rfl ⟨rfl, rfl, by rw [he.2.2, he.2.1], hFr6⟩
        have h3 : z ≠ 2 := fun q => h3 (by rw [q])
        rcases he with he | he
        · exact absurd he.1 h3
        have he := he.2
        rw [lnS] at he
        refine r_iload C rfl rfl ?_
        refine r_ic (v := (-1)) C rfl (by decide) ?_
        refine r_icmp_ne C 150 rfl (by decide) (fun h4 => ?_) (fun h4 => ?_)
        · rw [if_neg h4] at he
          refine r_iinc (c := nI 1) C rfl rfl (by decide) ?_
          refine r_goto C 70 rfl (by decide) ?_
          refine r_eqL ?_ (ih (i + 1) M4 (by omega) hFr6 (Or.inr ⟨h3, he⟩) (some (.int (Fz i))))
          first | rfl | (simp only [sm, add3, nI_add, Int32.add_zero, Int32.zero_add]; rfl)
        · rw [if_pos h4] at he
          refine r_iload_n C 3 rfl rfl rfl ?_
          refine r_if_ne C 144 rfl (by decide) (fun h5 => ?_) (fun h5 => ?_)
          · have h5 : z ≠ 0 := fun q => h5 (by rw [q]; rfl)
            refine r_bi (v := nI 10) C rfl (by decide) ?_
            refine r_iload C rfl rfl ?_
            refine r_imul C rfl ?_
            rw [pk_mul]
            exact q_iret C hQ rfl rfl rfl ⟨rfl, rfl, by rw [he, hrz]; show _ = some (Value.int (if z = 0 then nI i else nI (10 * i))); rw [if_neg h5], hFr6⟩
          · have h5 : z = 0 := (nI_eq (b := 0) (by omega) (by decide)).mp h5
            refine r_iload C rfl rfl ?_
            refine r_goto C 149 rfl (by decide) ?_
            exact q_iret C hQ rfl rfl rfl ⟨rfl, rfl, by rw [he, hrz]; show _ = some (Value.int (if z = 0 then nI i else nI (10 * i))); rw [if_pos h5], hFr6⟩
      have hm := (hO w hw).mn
      refine r_iload_n C 3 rfl rfl rfl ?_
      refine r_if_ne C 97 rfl (by decide) (fun h5 => ?_) (fun h5 => ?_)
      · have h5 : z ≠ 0 := fun q => h5 (by rw [q]; rfl)
        refine r_iload_n C 3 rfl rfl rfl ?_
        refine r_ic (v := nI 1) C rfl (by decide) ?_
        refine r_icmp_ne C 114 rfl (by decide) (fun h6 => ?_) (fun h6 => ?_)
        · have h6 : z ≠ 1 := fun q => h6 (by rw [q])
          refine go M2 hFr3 ?_ ?_
          · rw [lineX, if_neg h5, if_neg h6]; exact a2
          · rw [lineX, if_neg h5, if_neg h6]; exact hO w hw
        · have h6 := (nI_eq (by omega) (by omega)).mp h6
          have ht : tz = 10 := by rw [htz, if_neg h5, if_pos h6]
          refine r_aload_n C 0 rfl rfl rfl rfl ?_
          refine r_bi (v := nI 12) C rfl (by decide) ?_
          refine r_ic (v := nI 5) C rfl (by decide) ?_
          refine r_bi (v := nI 10) C rfl (by decide) ?_
          refine r_iload C rfl rfl ?_
          refine r_imul C rfl ?_
          rw [pk_mul]
          refine v3_g C rfl mfX12_put lk_X12_175 (by assumption) (m_put hM 5 rfl rfl (by decide) (by decide) (by decide) (by decide) a2 hm) ?_
          rintro v M3 ⟨rfl, a3, hFr4⟩
          refine go M3 (hFr3.trans hFr4 (fun _ q => q) (fun _ q => q.elim) (fun _ q => q) (fun _ q => by omega)) ?_ ?_
          · rw [lineX, if_neg h5, if_pos h6]; exact a3
          · rw [lineX, if_neg h5, if_pos h6]; exact ok_up5 (hO w hw) (by omega)
      · have h5 : z = 0 := (nI_eq (b := 0) (by omega) (by decide)).mp h5
        have ht : tz = 9 := by rw [htz, if_pos h5]
        refine r_aload_n C 0 rfl rfl rfl rfl ?_
        refine r_bi (v := nI 12) C rfl (by decide) ?_
        refine r_ic (v := nI 3) C rfl (by decide) ?_
        refine r_iload C rfl rfl ?_
        refine v3_g C rfl mfX12_put lk_X12_175 (by assumption) (m_put hM 3 rfl rfl (by decide) (by decide) (by decide) (by decide) a2 hm) ?_
        rintro v M3 ⟨rfl, a3, hFr4⟩
        refine r_iload_n C 3 rfl rfl rfl ?_
        refine r_ic (v := nI 1) C rfl (by decide) ?_
        refine r_icmp_ne C 114 rfl (by decide) (fun h6 => ?_) (fun h6 => absurd ((nI_eq (by omega) (by omega)).mp h6) (by omega))
        refine go M3 (hFr3.trans hFr4 (fun _ q => q) (fun _ q => q.elim) (fun _ q => q) (fun _ q => by omega)) ?_ ?_
        · rw [lineX, if_pos h5]; exact a3
        · rw [lineX, if_pos h5]; exact ok_up3 (hO w hw) (by omega)
  have start : PT k E Q 0 0 Sh N G M0 65 [some (.ref o), some (.int (nI w)), some (.int (nI n)), some (.int (nI z)), none, none, none] [.int (nI tz)] := by
    refine r_istore C rfl (by exact Nat.le_of_ble_eq_true rfl) ?_
    refine r_ic (v := nI 0) C rfl (by decide) ?_
    refine r_istore C rfl (by exact Nat.le_of_ble_eq_true rfl) ?_
    refine loop (tz + 1) 0 M0 (by omega) FrR.rfl ?_ none
    rcases hans with q | q
    · exact Or.inl ⟨q.1, rfl, q.2⟩
    · exact Or.inr q
  refine r_iload_n C 3 rfl rfl rfl ?_
  refine r_if_ne C 54 rfl (by decide) (fun h5 => ?_) (fun h5 => ?_)
  · have h5 : z ≠ 0 := fun q => h5 (by rw [q]; rfl)
    refine r_iload_n C 3 rfl rfl rfl ?_
    refine r_ic (v := nI 1) C rfl (by decide) ?_
    refine r_icmp_ne C 64 rfl (by decide) (fun h6 => ?_) (fun h6 => ?_)
    · have h6 : z ≠ 1 := fun q => h6 (by rw [q])
      rw [if_neg h5, if_neg h6] at htz
      subst htz
      refine r_ic (v := nI 0) C rfl (by decide) ?_
      exact start
    · have h6 := (nI_eq (by omega) (by omega)).mp h6
      rw [if_neg h5, if_pos h6] at htz
      subst htz
      refine r_bi (v := nI 10) C rfl (by decide) ?_
      refine r_goto C 65 rfl (by decide) ?_
      exact start
  · have h5 : z = 0 := (nI_eq (b := 0) (by omega) (by decide)).mp h5
    rw [if_pos h5] at htz
    subst htz
    refine r_bi (v := nI 9) C rfl (by decide) ?_
    refine r_goto C 65 rfl (by decide) ?_
    exact start
end MLINE
