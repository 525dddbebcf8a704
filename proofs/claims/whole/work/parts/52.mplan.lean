section MPLAN
variable {E : VE} {Sh : Nat → SE} {N : Nat} {G : Bool} {M : MM} {o r w v yd yv t b w0 fo p bw : Nat} {R : Row} {Y : YD}
abbrev SP (o c : Nat) : Prop := SB o c ∨ c = o + 12
theorem m_planOn (hM : MO Sh N o) (hF : Y.Fine) {h : Nat} (hh : h ≤ 24) (wk : Nat) (hwk : wk ≤ 5) :
    ∀ (f k : Nat) (M : MM) (R : Row) (b : Nat), k + f = wk → YR M o Y → OK b R → b + f < 2 ^ 29 → Ag (mrow M o (12 + k)) R →
    Con E mX12_planOn (7 + f) 0 0 [.ref o, .int (nI k), .int (nI wk), .int (nI h)] Sh N G M (PR Sh N (fun z M' => z = some (.int (bI (plS Y h f R).isSome)) ∧ FrR o (SP o) (fun r => 12 + k < r ∧ r < 32) M M' ∧ plRow (M (o + 12)) (M' (o + 12)) k (plS Y h f R))) nox := by
  have h0 := hM.1
  have h12 : At Sh N (o + 12) (arE 0 5) := hM.ar 11 rfl
  have no : ∀ {F : Nat → Int32} {k : Nat}, plRow F F k none := ⟨fun _ _ => rfl, fun l e => by cases e⟩
  intro f
  induction f with
  | zero =>
    intro k0 M R b hk hY hO hb a
    have hm := hO.mn
    refine Con.ofQ (by decide +kernel) (by simp [Value.category]) (Nat.le_of_ble_eq_true rfl) (fun k C0 Q hQ => ?_)
    have C : CK k E mX12_planOn kdX12_planOn 7 0 0 := ⟨C0, kdX12_planOn_ok⟩
    refine r_iload_n C 1 rfl rfl rfl ?_
    refine r_iload_n C 2 rfl rfl rfl ?_
    refine r_icmp_ne C 24 rfl (by decide) (fun q => absurd (by rw [show k0 = wk by omega]) q) (fun _ => ?_)
    refine r_aload_n C 0 rfl rfl rfl rfl ?_
    refine r_bi (v := nI 12) C rfl (by decide) ?_
    refine r_iload_n C 1 rfl rfl rfl ?_
    refine r_iadd C rfl ?_
    rw [nI_add]
    refine r_ic (v := nI 1) C rfl (by decide) ?_
    refine v2_r C rfl mfX12_of lk_X12_238 (by assumption) (m_of hM 1 rfl rfl (by omega) (by decide) a) ?_
    rw [hO.wf.2.2.2.1]
    refine r_iload_n C 3 rfl rfl rfl ?_
    refine r_icmp_lt C 22 rfl (by decide) (fun q => ?_) (fun q => ?_)
    · have q := lt_nI (by omega) (by omega) q
      have e : plS Y h 0 R = none := by rw [plS, if_neg (by omega)]
      refine r_ic (v := nI 0) C rfl (by decide) ?_
      exact q_iret C hQ rfl rfl rfl ⟨rfl, rfl, by rw [e]; rfl, FrR.rfl, by rw [e]; exact no⟩
    · have q := nlt_nI (by omega) (by omega) q
      have e : plS Y h 0 R = some [] := by rw [plS, if_pos q]
      refine r_ic (v := nI 1) C rfl (by decide) ?_
      refine r_goto C 23 rfl (by decide) ?_
      exact q_iret C hQ rfl rfl rfl ⟨rfl, rfl, by rw [e]; rfl, FrR.rfl, by rw [e]; exact ⟨fun _ _ => rfl, fun l e i hi => by rw [← Option.some.inj e] at hi; exact absurd hi (Nat.not_lt_zero i)⟩⟩
  | succ f ih =>
    intro k0 M R b hk hY hO hb a
    have hm := hO.mn
    refine Con.ofQ (by decide +kernel) (by simp [Value.category]) (Nat.le_of_ble_eq_true rfl) (fun k C0 Q hQ => ?_)
    have C : CK k E mX12_planOn kdX12_planOn (7+(f+1)) 0 0 := ⟨C0, kdX12_planOn_ok⟩
    refine r_iload_n C 1 rfl rfl rfl ?_
    refine r_iload_n C 2 rfl rfl rfl ?_
    refine r_icmp_ne C 24 rfl (by decide) (fun _ => ?_) (fun q => absurd ((nI_eq (by omega) (by omega)).mp q) (by omega))
    obtain ⟨g, hg⟩ : ∃ g, g = fun i => if plOk Y R i = true then plS Y h f (wkR Y (rsR i R)) else none := ⟨_, rfl⟩
    have hS : plS Y h (f + 1) R = plL g 0 4 := by rw [plS, hg]
    have hgn : ∀ i, plOk Y R i = false → g i = none := fun i q => by rw [hg]; show (if plOk Y R i = true then _ else none) = none; rw [if_neg (by rw [q]; decide)]
    have loop : ∀ (m i : Nat) (M1 : MM), i + m = 4 → FrR o (SP o) (fun r => 12 + k0 < r ∧ r < 32) M M1 → (∀ j, j < k0 → M1 (o + 12) j = M (o + 12) j) → plS Y h (f + 1) R = plL g i m → ∀ v5, PT k E Q 0 0 Sh N G M1 27 [some (.ref o), some (.int (nI k0)), some (.int (nI wk)), some (.int (nI h)), some (.int (nI i)), v5] [] := by
      intro m
      induction m with
      | zero =>
        intro i M1 hi hFr hrow he v5
        refine r_iload C rfl rfl ?_
        refine r_ic (v := nI 3) C rfl (by decide) ?_
        refine r_icmp_gt C 130 rfl (by decide) (fun _ => ?_) (fun q => absurd ((nI_ltI (by omega) (by omega)).mpr (by omega)) q)
        refine r_ic (v := nI 0) C rfl (by decide) ?_
        have e : plS Y h (f + 1) R = none := by rw [he]; rfl
        exact q_iret C hQ rfl rfl rfl ⟨rfl, rfl, by rw [e]; rfl, hFr, by rw [e]; exact ⟨hrow, fun l e => by cases e⟩⟩
      | succ m ihm =>
        intro i M1 hi hFr hrow he v5
        have stop : (∀ j, i ≤ j → j < i + (m + 1) → plOk Y R j = false) → ∀ M4, FrR o (SP o) (fun r => 12 + k0 < r ∧ r < 32) M M4 → (∀ j, j < k0 → M4 (o + 12) j = M (o + 12) j) → ∀ {pc : Nat} {L : List (Option Value)}, cod kdX12_planOn pc = some (.iconst 0, 1) → cod kdX12_planOn (pc + 1) = some (.ireturn, 1) → PT k E Q 0 0 Sh N G M4 pc L [] := by
          intro hno M4 hFr4 hrow4 pc L d1 d2
          have e : plS Y h (f + 1) R = none := by rw [he, plL_none (fun j h1 h2 => hgn j (hno j h1 h2))]
          refine r_ic (v := nI 0) C d1 (by decide) ?_
          exact q_iret C hQ d2 rfl rfl ⟨rfl, rfl, by rw [e]; rfl, hFr4, by rw [e]; exact ⟨hrow4, fun l e => by cases e⟩⟩
        refine r_iload C rfl rfl ?_
        refine r_ic (v := nI 3) C rfl (by decide) ?_
        refine r_icmp_gt C 130 rfl (by decide) (fun q => absurd (lt_nI (by omega) (by omega) q) (by omega)) (fun _ => ?_)
        refine r_bi (v := nI 12) C rfl (by decide) ?_
        refine r_iload_n C 1 rfl rfl rfl ?_
        refine r_iadd C rfl ?_
        rw [nI_add]
        refine r_ic (v := nI 1) C rfl (by decide) ?_
        refine r_iadd C rfl ?_
        rw [nI_add]
        refine r_istore C rfl (by exact Nat.le_of_ble_eq_true rfl) ?_
        refine r_aload_n C 0 rfl rfl rfl rfl ?_
        refine r_bi (v := nI 12) C rfl (by decide) ?_
        refine r_iload_n C 1 rfl rfl rfl ?_
        refine r_iadd C rfl ?_
        rw [nI_add]
        have a1 : Ag (mrow M1 o (12 + k0)) R := hFr.row (by omega) (by omega) a hm
        refine r_iload C rfl rfl ?_
        refine v2_g C rfl mfX12_copy lk_X12_215 (by assumption) (m_copy hM (12 + k0) (12 + k0 + 1) rfl rfl (by omega) (by omega) hm a1) ?_
        rintro z M2 ⟨rfl, a2, hFr2⟩
        have hFr3 : FrR o (SP o) (fun r => 12 + k0 < r ∧ r < 32) M M2 := hFr.trans hFr2 (fun _ q => q) (fun _ q => q.elim) (fun _ q => q) (fun _ q => by omega)
        have e2 : M2 (o + 12) = M1 (o + 12) := hFr2.1 _ (by omega) (fun q => q)
        refine r_aload_n C 0 rfl rfl rfl rfl ?_
        refine r_iload C rfl rfl ?_
        refine r_ic (v := nI 1) C rfl (by decide) ?_
        refine v2_r C rfl mfX12_of lk_X12_238 (by assumption) (m_of hM 1 rfl rfl (by omega) (by decide) a2) ?_
        rw [hO.wf.2.2.2.1]
        refine r_iload C rfl rfl ?_
        refine r_iadd C rfl ?_
        rw [nI_add]
        refine r_bi (v := nI 24) C rfl (by decide) ?_
        refine r_icmp_le C 68 rfl (by decide) (fun q => ?_) (fun q => ?_)
        rotate_left
        · have q := nle_nI (by omega) (by omega) q
          exact stop (fun j h1 h2 => plOk_24 (by omega)) M2 hFr3 (fun j hj => by rw [e2]; exact hrow j hj) rfl rfl
        have h24 := le_nI (by omega) (by omega) q
        refine r_aload_n C 0 rfl rfl rfl rfl ?_
        refine r_iload C rfl rfl ?_
        refine r_iload C rfl rfl ?_
        refine v2_g C rfl mfX12_raise lk_X12_282 (by assumption) (m_raise hM i rfl rfl (by omega) hO h24 a2) ?_
        rintro z M3 ⟨rfl, a3, hFr4⟩
        have hFr5 : FrR o (SP o) (fun r => 12 + k0 < r ∧ r < 32) M M3 := hFr3.trans hFr4 (fun _ q => q) (fun _ q => q.elim) (fun _ q => q) (fun _ q => by omega)
        have e3 : M3 (o + 12) = M1 (o + 12) := (hFr4.1 _ (by omega) (fun q => q)).trans e2
        have hO3 := ok_rs hO h24
        have hY3 : YR M3 o Y := hY.fr hFr5 (fun k q z => by simp only [SP, SB] at z; omega)
        refine r_aload_n C 0 rfl rfl rfl rfl ?_
        refine r_iload C rfl rfl ?_
        refine v1_r C rfl mfX12_someSits lk_X12_319 (by assumption) (m_sits hM rfl (by omega) hY3 hO3 a3) ?_
        refine r_if_eq C 87 rfl (by decide) (fun h2 => ?_) (fun h2 => ?_)
        rotate_left
        · have h2 := bI_1 h2
          refine stop (fun j h3 h4 => ?_) M3 hFr5 (fun j hj => by rw [e3]; exact hrow j hj) rfl rfl
          by_cases h5 : mno R + j ≤ 24
          · cases h6 : sitY Y (rsR j R) with
            | true => exact plOk_s h6
            | false => rw [sit_mono hF hO h3 h5 h6] at h2; cases h2
          · exact plOk_24 h5
        have h2 := bI_0 h2
        refine r_aload_n C 0 rfl rfl rfl rfl ?_
        refine r_getv C rfl f_X12_47 (by assumption) rfl ?_
        refine r_iload_n C 1 rfl rfl rfl ?_
        refine r_iload C rfl rfl ?_
        refine r_iast C rfl (by assumption) (k0) rfl (by omega) (by decide) ?_
        obtain ⟨M4, hM4⟩ : ∃ M4, M4 = up M3 (o + 12) k0 (nI i) := ⟨_, rfl⟩
        rw [← hM4]
        have hFu : FrR o (SP o) (fun _ => False) M3 M4 := ⟨fun c h3 h4 => by rw [hM4]; exact up_row M3 _ (fun z => h4 (Or.inr z)), fun s h3 h4 j hj => by simp only [mrow]; rw [hM4, up_row M3 _ (by omega)]⟩
        have hFr6 : FrR o (SP o) (fun r => 12 + k0 < r ∧ r < 32) M M4 := hFr5.trans hFu (fun _ q => q) (fun _ q => q) (fun _ q => q) (fun _ q => q.elim)
        have a4 : Ag (mrow M4 o (12 + k0 + 1)) (rsR i R) := hFu.row (by omega) (fun q => q) a3 hO3.mn
        have hY4 : YR M4 o Y := hY.fr hFr6 (fun k q z => by simp only [SP, SB] at z; omega)
        have r4 : ∀ j, j < k0 → M4 (o + 12) j = M (o + 12) j := fun j hj => by rw [hM4, up_ne _ _ (by omega), e3]; exact hrow j hj
        have r5 : M4 (o + 12) k0 = nI i := by rw [hM4, up_same]
        refine r_aload_n C 0 rfl rfl rfl rfl ?_
        refine r_iload C rfl rfl ?_
        refine v1_g C rfl mfX12_week lk_X12_317 (by assumption) (m_week hM rfl (by omega) hY4 hF hO3 (by omega) a4) ?_
        rintro z M5 ⟨rfl, a5, hFr7⟩
        have hFr8 : FrR o (SP o) (fun r => 12 + k0 < r ∧ r < 32) M M5 := hFr6.trans hFr7 (fun _ q => q) (fun _ q => Or.inl q) (fun _ q => q) (fun _ q => by omega)
        have e5 : M5 (o + 12) = M4 (o + 12) := hFr7.1 _ (by omega) (by simp only [SB]; omega)
        have hO5 : OK (b + 1) (wkR Y (rsR i R)) := ok_wk hF hO3 (by omega)
        have hY5 : YR M5 o Y := hY.fr hFr8 (fun k q z => by simp only [SP, SB] at z; omega)
        have hnext : g i = none → ∀ M6, FrR o (SP o) (fun r => 12 + k0 < r ∧ r < 32) M M6 → (∀ j, j < k0 → M6 (o + 12) j = M (o + 12) j) → PT k E Q 0 0 Sh N G M6 124 [some (.ref o), some (.int (nI k0)), some (.int (nI wk)), some (.int (nI h)), some (.int (nI i)), some (.int (nI (12 + k0 + 1)))] [] := by
          intro hn M6 hFr9 hrow6
          refine r_iinc (c := nI 1) C rfl rfl (by decide) ?_
          refine r_goto C 27 rfl (by decide) ?_
          refine r_eqL ?_ (ihm (i + 1) M6 (by omega) hFr9 hrow6 (by rw [he, plL_no hn]) (some (.int (nI (12 + k0 + 1)))))
          first | rfl | (simp only [sm, add3, nI_add, Int32.add_zero, Int32.zero_add]; rfl)
        refine r_aload_n C 0 rfl rfl rfl rfl ?_
        refine r_iload C rfl rfl ?_
        refine v1_r C rfl mfX12_someSits lk_X12_319 (by assumption) (m_sits hM rfl (by omega) hY5 hO5 a5) ?_
        refine r_if_ne C 124 rfl (by decide) (fun h3 => ?_) (fun h3 => ?_)
        · exact hnext (hgn i (plOk_w (bI_1 h3))) M5 hFr8 (fun j hj => by rw [e5]; exact r4 j hj)
        have h3 := bI_0 h3
        have hgi : g i = plS Y h f (wkR Y (rsR i R)) := by rw [hg]; show (if plOk Y R i = true then _ else none) = _; rw [if_pos (plOk_y h24 h2 h3)]
        refine r_aload_n C 0 rfl rfl rfl rfl ?_
        refine r_iload_n C 1 rfl rfl rfl ?_
        refine r_ic (v := nI 1) C rfl (by decide) ?_
        refine r_iadd C rfl ?_
        rw [nI_add]
        refine r_iload_n C 2 rfl rfl rfl ?_
        refine r_iload_n C 3 rfl rfl rfl ?_
        refine v3_g C rfl mfX12_planOn lk_X12_325 (by assumption) (ih (k0 + 1) M5 (wkR Y (rsR i R)) (b + 1) (by omega) hY5 hO5 (by omega) a5) ?_
        rintro z M6 ⟨rfl, hFr9, hrow9⟩
        rw [← hgi] at hrow9 ⊢
        have hFrX : FrR o (SP o) (fun r => 12 + k0 < r ∧ r < 32) M M6 := hFr8.trans hFr9 (fun _ q => q) (fun _ q => q) (fun _ q => q) (fun _ q => by omega)
        refine r_if_eq C 124 rfl (by decide) (fun q2 => ?_) (fun q2 => ?_)
        · have q2 := Option.isSome_eq_false_iff.mp (bI_0 q2)
          have q2 : g i = none := Option.isNone_iff_eq_none.mp q2
          exact hnext q2 M6 hFrX (fun j hj => by rw [hrow9.1 j (by omega), e5]; exact r4 j hj)
        · obtain ⟨l, hl⟩ := Option.isSome_iff_exists.mp (bI_1 q2)
          rw [hl] at hrow9
          have e : plS Y h (f + 1) R = some (i :: l) := by rw [he, plL_yes hl]
          refine r_ic (v := nI 1) C rfl (by decide) ?_
          refine q_iret C hQ rfl rfl rfl ⟨rfl, rfl, by rw [e]; rfl, hFrX, ?_⟩
          rw [e]
          exact plRow.cons (fun j hj => by rw [e5]; exact r4 j hj) (by rw [e5]; exact r5) hrow9
    refine r_ic (v := nI 0) C rfl (by decide) ?_
    refine r_istore C rfl (by exact Nat.le_of_ble_eq_true rfl) ?_
    exact loop 4 0 M (by omega) FrR.rfl (fun _ _ => rfl) hS none
/-- the reference keeps this plan -/
def PKR (M : MM) (o : Nat) (x : Option (List Nat)) : Prop := M o 25 = plI x ∧ ∀ l, x = some l → l.length ≤ 5 ∧ ∀ i, i < l.length → M (o + 11) i = nI (l.getD i 0)
def plKR (x0 x : Option (List Nat)) : Option (List Nat) := match x with
  | some l => some l
  | none => x0
theorem plK_R (x0 x : Option (List Nat)) : plK (x0.getD []) x = (plKR x0 x).getD [] := by cases x <;> rfl
theorem PKR.cong {M' : MM} {x : Option (List Nat)} (h : PKR M o x) (h1 : M' o 25 = M o 25) (h2 : M' (o + 11) = M (o + 11)) : PKR M' o x := by
  unfold PKR
  rw [h1, h2]
  exact h
/-- what 'plan' answers -/
def planA (Y : YD) (wn : Nat) (Rw : Nat → Row) (x y : Int32) : Nat × Option (Option (List Nat)) :=
  if isW x wn = false then (1, none) else if inI y (nI 1) (nI 24) = false then (2, none) else (0, some (plN Y y.toNatClampNeg (Rw x.toNatClampNeg) 0 6))
def planI (x : Option (Option (List Nat))) : Int32 := match x with
  | some y => plI y
  | none => 0
def planK (x0 : Option (List Nat)) (x : Option (Option (List Nat))) : Option (List Nat) := match x with
  | some y => plKR x0 y
  | none => x0
/-- cells of the reference that a plan writes -/
abbrev SPP (o c : Nat) : Prop := c = o + 2 ∨ c = o + 3 ∨ c = o + 11 ∨ c = o + 12
theorem m_plan (hM : MO Sh N o) {wn : Nat} (hwn : M o 4 = nI wn) (hw4 : wn ≤ 4) (hY : YR M o Y) (hF : Y.Fine) {Rw : Nat → Row} (hO : ∀ i, i < wn → OK b (Rw i)) (hb : b < 2 ^ 28) (a : ∀ i, i < wn → Ag (mrow M o i) (Rw i)) {x0 : Option (List Nat)} (hk : PKR M o x0) (x y : Int32) :
    Con E mX12_plan 13 0 0 [.ref o, .int x, .int y] Sh N G M (PR Sh N (fun v M' => v = some (.int (planI (planA Y wn Rw x y).2)) ∧ (∃ v25, FrR o (SPP o) (fun r => 12 ≤ r ∧ r < 32) (up (up M o 0 (nI (planA Y wn Rw x y).1)) o 25 v25) M') ∧ PKR M' o (planK x0 (planA Y wn Rw x y).2))) nox := by
  have h0 := hM.1
  have h11 : At Sh N (o + 11) (arE 0 5) := hM.ar 10 rfl
  have h12 : At Sh N (o + 12) (arE 0 5) := hM.ar 11 rfl
  have same : ∀ (M : MM) (j v : Nat) (z : Int32), up (up M o j z) o 25 (up M o j z o 25) = up M o j z := fun M j v z => by
    funext c d
    by_cases e : c = o ∧ d = 25
    · rw [e.1, e.2, up_same]
    · rw [up_ne _ _ e]
  have bad : ∀ z, up (up M o 0 z) o 25 (up M o 0 z o 25) = up M o 0 z := fun z => same M 0 0 z
  refine Con.ofQ (by decide +kernel) (by simp [Value.category]) (Nat.le_of_ble_eq_true rfl) (fun k C0 Q hQ => ?_)
  have C : CK k E mX12_plan kdX12_plan 13 0 0 := ⟨C0, kdX12_plan_ok⟩
  refine r_aload_n C 0 rfl rfl rfl rfl ?_
  refine r_ic (v := nI 0) C rfl (by decide) ?_
  refine r_puti C rfl f_X12_90 (by assumption) rfl rfl rfl ?_
  refine r_aload_n C 0 rfl rfl rfl rfl ?_
  refine r_iload_n C 1 rfl rfl rfl ?_
  refine v1_r C rfl mfX12_isWall lk_X12_244 (by assumption) (c_isWall hM (by rw [up_ne _ _ (by omega)]; exact hwn) x) ?_
  refine r_if_ne C 19 rfl (by decide) (fun h => ?_) (fun h => ?_)
  rotate_left
  · have h := bI_0 h
    have e : planA Y wn Rw x y = (1, none) := by rw [planA, if_pos h]
    refine r_aload_n C 0 rfl rfl rfl rfl ?_
    refine r_ic (v := nI 1) C rfl (by decide) ?_
    refine v1_r C rfl mfX12_fail lk_X12_208 (by assumption) (c_fail hM (nI 1)) ?_
    rw [up_up]
    refine q_iret C hQ rfl rfl rfl ⟨rfl, rfl, by rw [e]; rfl, ⟨_, by rw [e, bad]; exact FrR.rfl⟩, ?_⟩
    rw [e]
    exact hk.cong (up_ne _ _ (by omega)) (up_row _ _ (by omega))
  have h := bI_1 h
  obtain ⟨w, hw, rfl⟩ := (isW_iff (by omega)).mp h
  refine r_iload_n C 2 rfl rfl rfl ?_
  refine r_ic (v := nI 1) C rfl (by decide) ?_
  refine r_bi (v := nI 24) C rfl (by decide) ?_
  refine s3_r C rfl mfX12_isIn lk_X12_96 (c_X12_isIn y (nI 1) (nI 24)) ?_
  rw [inI_if]
  refine r_if_ne C 35 rfl (by decide) (fun h2 => ?_) (fun h2 => ?_)
  rotate_left
  · have h2 := bI_0 h2
    have e : planA Y wn Rw (nI w) y = (2, none) := by rw [planA, if_neg (by rw [h]; decide), if_pos h2]
    refine r_aload_n C 0 rfl rfl rfl rfl ?_
    refine r_ic (v := nI 2) C rfl (by decide) ?_
    refine v1_r C rfl mfX12_fail lk_X12_208 (by assumption) (c_fail hM (nI 2)) ?_
    rw [up_up]
    refine q_iret C hQ rfl rfl rfl ⟨rfl, rfl, by rw [e]; rfl, ⟨_, by rw [e, bad]; exact FrR.rfl⟩, ?_⟩
    rw [e]
    exact hk.cong (up_ne _ _ (by omega)) (up_row _ _ (by omega))
  have h2 := bI_1 h2
  obtain ⟨n, hn1, hn9, rfl⟩ := (inI_iff (by decide) (by decide)).mp h2
  have e : planA Y wn Rw (nI w) (nI n) = (0, some (plN Y n (Rw w) 0 6)) := by
    rw [planA, if_neg (by rw [h]; decide), if_neg (by rw [h2]; decide), nI_clamp (by omega), nI_clamp (by omega)]
  rw [e] at hQ
  obtain ⟨M0, hM0⟩ : ∃ M0, M0 = up M o 0 (nI 0) := ⟨_, rfl⟩
  rw [← hM0]
  have hQ : Q = QM k E 0 0 Sh N G M (PR Sh N (fun v M' => v = some (.int (plI (plN Y n (Rw w) 0 6))) ∧ (∃ v25, FrR o (SPP o) (fun r => 12 ≤ r ∧ r < 32) (up M0 o 25 v25) M') ∧ PKR M' o (plKR x0 (plN Y n (Rw w) 0 6)))) nox := by rw [hM0]; exact hQ
  have a0 : ∀ i, i < wn → Ag (mrow M0 o i) (Rw i) := fun i hi => by rw [hM0, up_ne_row]; exact a i hi
  have hY0 : YR M0 o Y := by rw [hM0]; exact hY.up _ _
  have hk0 : PKR M0 o x0 := by rw [hM0]; exact hk.cong (up_ne _ _ (by omega)) (up_row _ _ (by omega))
  have s0 : up M0 o 25 (M0 o 25) = M0 := by rw [hM0]; exact bad _
  have loop : ∀ (m i : Nat) (M1 : MM), i + m = 6 → FrR o (SP o) (fun r => 12 ≤ r ∧ r < 32) M0 M1 → Ag (mrow M1 o 12) (Rw w) → plN Y n (Rw w) 0 6 = plN Y n (Rw w) i m → PT k E Q 0 0 Sh N G M1 44 [some (.ref o), some (.int (nI w)), some (.int (nI n)), some (.int (nI i)), none] [] := by
    intro m
    induction m with
    | zero =>
      intro i M1 hi hFr a1 he
      have hk1 : PKR M1 o x0 := hk0.cong (by rw [hFr.1 o (by omega) (by simp only [SP, SB]; omega)]) (hFr.1 _ (by omega) (by simp only [SP, SB]; omega))
      refine r_iload_n C 3 rfl rfl rfl ?_
      refine r_ic (v := nI 5) C rfl (by decide) ?_
      refine r_icmp_gt C 104 rfl (by decide) (fun _ => ?_) (fun q => absurd ((nI_ltI (by omega) (by omega)).mpr (by omega)) q)
      have e : plN Y n (Rw w) 0 6 = none := by rw [he]; rfl
      refine r_ic (v := (-1)) C rfl (by decide) ?_
      exact q_iret C hQ rfl rfl rfl ⟨rfl, rfl, by rw [e]; rfl, ⟨M0 o 25, by rw [s0]; exact hFr.mono (fun c q => by simp only [SP, SB] at q; simp only [SPP]; omega) (fun _ q => q)⟩, by rw [e]; exact hk1⟩
    | succ m ih =>
      intro i M1 hi hFr a1 he
      have hY1 : YR M1 o Y := hY0.fr hFr (fun k q z => by simp only [SP, SB] at z; omega)
      refine r_iload_n C 3 rfl rfl rfl ?_
      refine r_ic (v := nI 5) C rfl (by decide) ?_
      refine r_icmp_gt C 104 rfl (by decide) (fun q => absurd (lt_nI (by omega) (by omega) q) (by omega)) (fun _ => ?_)
      refine r_aload_n C 0 rfl rfl rfl rfl ?_
      refine r_ic (v := nI 0) C rfl (by decide) ?_
      refine r_iload_n C 3 rfl rfl rfl ?_
      refine r_iload_n C 2 rfl rfl rfl ?_
      refine v3_g C rfl mfX12_planOn lk_X12_325 (by assumption) (m_planOn hM hF hn9 i (by omega) i 0 M1 (Rw w) b (by omega) hY1 (hO w hw) (by omega) a1) ?_
      rintro z M2 ⟨rfl, hFr2, hrow⟩
      have hFr3 : FrR o (SP o) (fun r => 12 ≤ r ∧ r < 32) M0 M2 := hFr.trans hFr2 (fun _ q => q) (fun _ q => q) (fun _ q => q) (fun _ q => by omega)
      refine r_if_ne C 62 rfl (by decide) (fun q2 => ?_) (fun q2 => ?_)
      rotate_left
      · have q2 := Option.isSome_eq_false_iff.mp (bI_0 q2)
        have q2 : plS Y n i (Rw w) = none := Option.isNone_iff_eq_none.mp q2
        refine r_goto C 98 rfl (by decide) ?_
        refine r_iinc (c := nI 1) C rfl rfl (by decide) ?_
        refine r_goto C 44 rfl (by decide) ?_
        refine r_eqL ?_ (ih (i + 1) M2 (by omega) hFr3 (hFr2.row (by decide) (by omega) a1 (hO w hw).mn) (by rw [he, plN_no q2]))
        first | rfl | (simp only [sm, add3, nI_add, Int32.add_zero, Int32.zero_add]; rfl)
      obtain ⟨l, hl⟩ := Option.isSome_iff_exists.mp (bI_1 q2)
      have hln := plS_len hl
      have e : plN Y n (Rw w) 0 6 = some l := by rw [he, plN_yes hl]
      have l2 : ∀ (m j : Nat) (M3 : MM), j + m = i → FrR o (SPP o) (fun r => 12 ≤ r ∧ r < 32) (up M0 o 25 (nI i)) M3 → M3 (o + 12) = M2 (o + 12) → (∀ c, c < j → M3 (o + 11) c = M2 (o + 12) c) → PT k E Q 0 0 Sh N G M3 70 [some (.ref o), some (.int (nI w)), some (.int (nI n)), some (.int (nI i)), some (.int (nI j))] [] := by
        intro m
        induction m with
        | zero =>
          intro j M3 hj hFr4 e12 h11c
          refine r_iload C rfl rfl ?_
          refine r_iload_n C 3 rfl rfl rfl ?_
          refine r_icmp_ge C 96 rfl (by decide) (fun _ => ?_) (fun q => absurd ((nI_leI (by omega) (by omega)).mpr (by omega)) q)
          refine r_iload_n C 3 rfl rfl rfl ?_
          refine q_iret C hQ rfl rfl rfl ⟨rfl, rfl, by rw [e, plI, hln], ⟨_, hFr4⟩, ?_⟩
          rw [e]
          refine ⟨?_, fun l2 e2 => ?_⟩
          · rw [hFr4.1 o (by omega) (by simp only [SPP]; omega), up_same]
            show nI i = nI l.length
            rw [hln]
          · have e2 := Option.some.inj e2
            subst e2
            refine ⟨by omega, fun c hc => ?_⟩
            rw [h11c c (by omega)]
            have h3 := hrow.2 l hl c hc
            rw [Nat.zero_add] at h3
            exact h3
        | succ m ih2 =>
          intro j M3 hj hFr4 e12 h11c
          refine r_iload C rfl rfl ?_
          refine r_iload_n C 3 rfl rfl rfl ?_
          refine r_icmp_ge C 96 rfl (by decide) (fun q => absurd (le_nI (by omega) (by omega) q) (by omega)) (fun _ => ?_)
          refine r_aload_n C 0 rfl rfl rfl rfl ?_
          refine r_getv C rfl f_X12_44 (by assumption) rfl ?_
          refine r_iload C rfl rfl ?_
          refine r_aload_n C 0 rfl rfl rfl rfl ?_
          refine r_getv C rfl f_X12_47 (by assumption) rfl ?_
          refine r_iload C rfl rfl ?_
          refine r_iald C rfl (by assumption) (j) rfl (by omega) (by decide) ?_
          refine r_iast C rfl (by assumption) (j) rfl (by omega) (by decide) ?_
          refine r_iinc (c := nI 1) C rfl rfl (by decide) ?_
          refine r_goto C 70 rfl (by decide) ?_
          refine r_eqL ?_ (ih2 (j + 1) _ (by omega) ?_ ?_ ?_)
          · first | rfl | (simp only [sm, add3, nI_add, Int32.add_zero, Int32.zero_add]; rfl)
          · exact hFr4.trans (S' := fun c => c = o + 11) (T' := fun _ => False) ⟨fun c h3 h4 => up_row M3 _ h4, fun s h3 h4 d hd => by simp only [mrow]; rw [up_row M3 _ (by omega)]⟩ (fun _ q => q) (fun c q => by simp only [SPP]; omega) (fun _ q => q) (fun _ q => q.elim)
          · rw [up_row M3 _ (by omega), e12]
          · intro c hc
            by_cases ec : c = j
            · rw [ec, up_same, e12]
            · rw [up_ne _ _ (by omega), h11c c (by omega)]
      refine r_aload_n C 0 rfl rfl rfl rfl ?_
      refine r_iload_n C 3 rfl rfl rfl ?_
      refine r_puti C rfl f_X12_50 (by assumption) rfl rfl rfl ?_
      refine r_ic (v := nI 0) C rfl (by decide) ?_
      refine r_istore C rfl (by exact Nat.le_of_ble_eq_true rfl) ?_
      refine l2 i 0 _ (by omega) ?_ (up_row M2 _ (by omega)) (fun c hc => absurd hc (Nat.not_lt_zero c))
      refine ⟨fun c h3 h4 => ?_, fun s h3 h4 j hj => ?_⟩
      · by_cases ec : c = o
        · subst ec
          rw [up_own, up_own, hFr3.1 c (by omega) (by simp only [SP, SB]; omega)]
        · rw [up_row _ _ ec, up_row _ _ ec, hFr3.1 c h3 (by simp only [SP, SB]; simp only [SPP] at h4; omega)]
      · rw [up_ne_row, up_ne_row]
        exact hFr3.2 s h3 h4 j hj
  refine r_aload_n C 0 rfl rfl rfl rfl ?_
  refine r_iload_n C 1 rfl rfl rfl ?_
  refine r_bi (v := nI 12) C rfl (by decide) ?_
  refine v2_g C rfl mfX12_copy lk_X12_215 (by assumption) (m_copy hM w 12 rfl rfl (by omega) (by decide) (hO w hw).mn (a0 w hw)) ?_
  rintro v M1 ⟨rfl, a1, hFr1⟩
  refine r_ic (v := nI 0) C rfl (by decide) ?_
  refine r_istore_n C 3 rfl rfl (by exact Nat.le_of_ble_eq_true rfl) ?_
  exact loop 6 0 M1 rfl (hFr1.mono (fun _ q => q.elim) (fun _ q => by omega)) a1 rfl
end MPLAN
