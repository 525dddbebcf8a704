section TURN
variable {E : VE} {Sh : Nat → SE} {N : Nat} {G : Bool} {M : MM} {o r w v yd yv t b w0 fo p bw q : Nat} {R : Row} {Y : YD} {A B : Row}
/-- by turns: so many layers on the side s, the walls behind the week -/
def tuUp (Y : YD) (s : Nat) (A B : Row) : Nat := min 3 (hiY Y (if s = 0 then A else B))
def tuA (Y : YD) (s : Nat) (A B : Row) : Row := wkR Y (if s = 0 then rsR (tuUp Y s A B) A else A)
def tuB (Y : YD) (s : Nat) (A B : Row) : Row := wkR Y (if s = 0 then B else rsR (tuUp Y s A B) B)
/-- the best of all rows of f weeks more: one more than its sum, its row -/
def tuF (Y : YD) : Nat → Nat → Nat → Nat → Row → Row → Nat × Nat → Nat × Nat
  | 0, _, n, r, _, _, st => if st.1 < n + 1 then (n + 1, r) else st
  | f + 1, k, n, r, A, B, st => tuF Y f (k + 1) (n + tuUp Y 1 A B) (r + 1 * 2 ^ k) (tuA Y 1 A B) (tuB Y 1 A B) (tuF Y f (k + 1) (n + tuUp Y 0 A B) (r + 0 * 2 ^ k) (tuA Y 0 A B) (tuB Y 0 A B) st)
theorem tuUp_le (Y : YD) (s : Nat) (A B : Row) : tuUp Y s A B ≤ 3 := by simp only [tuUp]; omega
theorem tuF_cut (Y : YD) : ∀ {f k n r : Nat} {A B : Row} {st : Nat × Nat}, ¬ st.1 < n + 3 * f + 1 → tuF Y f k n r A B st = st
  | 0, k, n, r, A, B, st, h => by rw [tuF, if_neg (by omega)]
  | f + 1, k, n, r, A, B, st, h => by
    have h0 := tuUp_le Y 0 A B
    have h1 := tuUp_le Y 1 A B
    rw [tuF, tuF_cut Y (st := st) (by omega), tuF_cut Y (by omega)]
theorem tuF_b (Y : YD) : ∀ {f k n r : Nat} {A B : Row} {st : Nat × Nat}, st.1 ≤ 25 → st.2 < 2 ^ 8 → n + 3 * f ≤ 24 → r < 2 ^ k → k + f ≤ 8 → (tuF Y f k n r A B st).1 ≤ 25 ∧ (tuF Y f k n r A B st).2 < 2 ^ 8
  | 0, k, n, r, A, B, st, h1, h2, h3, h4, h5 => by
    rw [tuF]
    split
    · refine ⟨by show n + 1 ≤ 25; omega, ?_⟩
      show r < 2 ^ 8
      exact Nat.lt_of_lt_of_le h4 (Nat.pow_le_pow_right (by decide) (by omega))
    · exact ⟨h1, h2⟩
  | f + 1, k, n, r, A, B, st, h1, h2, h3, h4, h5 => by
    have u0 := tuUp_le Y 0 A B
    have u1 := tuUp_le Y 1 A B
    have e : 2 ^ (k + 1) = 2 * 2 ^ k := by rw [Nat.pow_succ]; omega
    have i1 := tuF_b Y (f := f) (k := k + 1) (n := n + tuUp Y 0 A B) (r := r + 0 * 2 ^ k) (A := tuA Y 0 A B) (B := tuB Y 0 A B) (st := st) h1 h2 (by omega) (by omega) (by omega)
    rw [tuF]
    exact tuF_b Y i1.1 i1.2 (by omega) (by omega) (by omega)
theorem nx_or (a b : Nat) : nI a ||| nI b = nI (a ||| b) := by
  apply Int32.toBitVec_inj.1
  show BitVec.ofNat 32 a ||| BitVec.ofNat 32 b = BitVec.ofNat 32 (a ||| b)
  apply BitVec.eq_of_getLsbD_eq
  intro i hi
  simp [hi]
theorem sh31 : ∀ k, k < 32 → ((nI k &&& 31).toBitVec.smod 32).toNat = k := by decide
theorem nx_shl {n k : Nat} (hk : k < 32) (h : n * 2 ^ k < 2 ^ 32) : nI n <<< (nI k &&& 31) = nI (n * 2 ^ k) := pk_shlN _ k (sh31 k hk) h
theorem nx_shr {n k : Nat} (hk : k < 32) (h : n < 2 ^ 31) : nI n >>> (nI k &&& 31) = nI (n / 2 ^ k) := pk_shrN h _ k (sh31 k hk)
theorem or_plus {r k s : Nat} (h : r < 2 ^ k) : r ||| (s * 2 ^ k) = r + s * 2 ^ k := by
  have e := Nat.two_pow_add_eq_or_of_lt h s
  rw [Nat.or_comm, Nat.mul_comm s, ← e, Nat.add_comm]
theorem row_or {r k s : Nat} (h : r < 2 ^ k) (hs : s < 2) (hk : k ≤ 20) : nI r ||| (nI s <<< (nI k &&& 31)) = nI (r + s * 2 ^ k) := by
  have h2 : 2 ^ k ≤ 2 ^ 20 := Nat.pow_le_pow_right (by decide) hk
  have h3 : s * 2 ^ k ≤ 1 * 2 ^ k := Nat.mul_le_mul_right _ (by omega)
  rw [nx_shl (by omega) (by omega), nx_or, or_plus h]
/-- the turner's object -/
def TU (Sh : Nat → SE) (N q t bw : Nat) : Prop := At Sh N q (.inr (7, [some (.ref t), some (.ref bw), none, none, none]))
theorem min3 (n : Nat) (hn : n ≤ 9) : mi (nI 3) (nI n) = nI (min 3 n) := by
  simp only [mi]
  by_cases q : n < 3
  · rw [if_pos ((nI_ltI (by omega) (by omega)).mpr q), show min 3 n = n by omega]
  · rw [if_neg (fun z => q ((nI_ltI (by omega) (by omega)).mp z)), show min 3 n = 3 by omega]
abbrev US (w0 t k c : Nat) : Prop := (w0 + 4 * (2 * k + 2) ≤ c ∧ c < w0 + 64) ∨ TS t c
theorem tu_ok (hF : Y.Fine) (hA : OK b A) (hB : OK b B) (hb : b < 2 ^ 29) (s : Nat) : mno (if s = 0 then A else B) + tuUp Y s A B ≤ 24 ∧ OK (b + 1) (tuA Y s A B) ∧ OK (b + 1) (tuB Y s A B) := by
  have h1 := (hiY_le Y (if s = 0 then A else B)).2
  have m1 := hA.mn
  have m2 := hB.mn
  have h2 : mno (if s = 0 then A else B) + tuUp Y s A B ≤ 24 := by
    simp only [tuUp]
    by_cases e : s = 0
    · rw [if_pos e] at h1 ⊢; omega
    · rw [if_neg e] at h1 ⊢; omega
  refine ⟨h2, ?_, ?_⟩
  · by_cases e : s = 0
    · rw [if_pos e] at h2
      rw [tuA, if_pos e]
      exact ok_wk hF (ok_rs hA h2) (by omega)
    · rw [tuA, if_neg e]
      exact ok_wk hF hA (by omega)
  · by_cases e : s = 0
    · rw [tuB, if_pos e]
      exact ok_wk hF hB (by omega)
    · rw [if_neg e] at h2
      rw [tuB, if_neg e]
      exact ok_wk hF (ok_rs hB h2) (by omega)
theorem u_goOn (hU : TU Sh N q t bw) (hBe : BA Sh N bw w0 yd) (hT : TA Sh N t yd) (hd1 : t + 3 ≤ w0) (hF : Y.Fine) {wk k0 s : Nat} (hwk : wk ≤ 8) (hk : k0 < wk) (hs : s < 2) (hM2 : M q 2 = nI wk) (hq : w0 + 64 ≤ q) (hY : YC M yd Y) (hA : OK b A) (hB : OK b B) (hb : b < 2 ^ 28) (a : Ag (wrow M (w0 + 4 * (2 * k0))) A) (c : Ag (wrow M (w0 + 4 * (2 * k0 + 1))) B) :
    Con E mX7_goOn 5 0 0 [.ref q, .int (nI k0), .int (nI s), .int (nI (tuUp Y s A B))] Sh N G M (PR Sh N (fun z M' => z = none ∧ Fr (US w0 t k0) M M' ∧ (k0 + 1 < wk → Ag (wrow M' (w0 + 4 * (2 * (k0 + 1)))) (tuA Y s A B) ∧ Ag (wrow M' (w0 + 4 * (2 * (k0 + 1) + 1))) (tuB Y s A B)))) nox := by
  unfold TU at hU
  obtain ⟨b0, b1⟩ := id hBe
  have t0 := hT.1
  have t3 := hT.2.2.2
  obtain ⟨h24, o1, o2⟩ := tu_ok hF hA hB (by omega) s
  refine Con.ofQ (by decide +kernel) (by simp [Value.category]) (Nat.le_of_ble_eq_true rfl) (fun k C0 Q hQ => ?_)
  have C : CK k E mX7_goOn kdX7_goOn 5 0 0 := ⟨C0, kdX7_goOn_ok⟩
  refine r_ic (v := nI 2) C rfl (by decide) ?_
  refine r_iload_n C 1 rfl rfl rfl ?_
  refine r_imul C rfl ?_
  rw [pk_mul]
  refine r_istore C rfl (by exact Nat.le_of_ble_eq_true rfl) ?_
  refine r_iload_n C 1 rfl rfl rfl ?_
  refine r_ic (v := nI 1) C rfl (by decide) ?_
  refine r_iadd C rfl ?_
  rw [nI_add]
  refine r_aload_n C 0 rfl rfl rfl rfl ?_
  refine r_geti C rfl f_X7_19 (by assumption) rfl ?_
  rw [hM2]
  refine r_icmp_ge C 27 rfl (by decide) (fun h => ?_) (fun h => ?_)
  · have h := le_nI (by omega) (by omega) h
    exact q_vret C hQ rfl rfl ⟨rfl, rfl, rfl, Fr.rfl, fun z => by omega⟩
  have h := nle_nI (by omega) (by omega) h
  have w2 := b1 (2 * k0 + 2) (by omega)
  have w3 := b1 (2 * k0 + 3) (by omega)
  have wa := b1 (2 * k0) (by omega)
  have wb := b1 (2 * k0 + 1) (by omega)
  obtain ⟨x2, -, -, -, -, y2⟩ := id w2
  obtain ⟨x3, -, -, -, -, y3⟩ := id w3
  refine r_iload C rfl rfl ?_
  refine r_ic (v := nI 3) C rfl (by decide) ?_
  refine r_iadd C rfl ?_
  rw [nI_add]
  refine r_aload_n C 0 rfl rfl rfl rfl ?_
  refine r_getv C rfl f_X7_15 (by assumption) rfl ?_
  refine r_alen4 C rfl (by assumption) ?_
  refine r_icmp_lt C 28 rfl (by decide) (fun _ => ?_) (fun z => absurd ((nI_ltI (by omega) (by omega)).mpr (by omega)) z)
  refine r_aload_n C 0 rfl rfl rfl rfl ?_
  refine r_getv C rfl f_X7_15 (by assumption) rfl ?_
  refine r_iload C rfl rfl ?_
  refine r_ic (v := nI 2) C rfl (by decide) ?_
  refine r_iadd C rfl ?_
  rw [nI_add]
  refine r_aald C rfl b0 (2 * k0 + 2) rfl (by omega) (by decide) rfl ?_
  refine r_aload_n C 0 rfl rfl rfl rfl ?_
  refine r_getv C rfl f_X7_15 (by assumption) rfl ?_
  refine r_iload C rfl rfl ?_
  refine r_aald C rfl b0 (2 * k0) rfl (by omega) (by decide) rfl ?_
  refine v1_g C rfl mfX8_become lk_X7_29 (by assumption) (p_become w2 wa (by omega) hA a) ?_
  rintro z M1 ⟨rfl, a1, hFr1⟩
  have c1 : Ag (wrow M1 (w0 + 4 * (2 * k0 + 1))) B := by rw [hFr1.row _ (fun k h1 h2 q => by simp only [WS] at q; omega)]; exact c
  refine r_aload_n C 0 rfl rfl rfl rfl ?_
  refine r_getv C rfl f_X7_15 (by assumption) rfl ?_
  refine r_iload C rfl rfl ?_
  refine r_ic (v := nI 3) C rfl (by decide) ?_
  refine r_iadd C rfl ?_
  rw [nI_add]
  refine r_aald C rfl b0 (2 * k0 + 3) rfl (by omega) (by decide) rfl ?_
  refine r_aload_n C 0 rfl rfl rfl rfl ?_
  refine r_getv C rfl f_X7_15 (by assumption) rfl ?_
  refine r_iload C rfl rfl ?_
  refine r_ic (v := nI 1) C rfl (by decide) ?_
  refine r_iadd C rfl ?_
  rw [nI_add]
  refine r_aald C rfl b0 (2 * k0 + 1) rfl (by omega) (by decide) rfl ?_
  refine v1_g C rfl mfX8_become lk_X7_29 (by assumption) (p_become w3 wb (by omega) hB c1) ?_
  rintro z M2 ⟨rfl, c2, hFr2⟩
  have a2 : Ag (wrow M2 (w0 + 4 * (2 * k0 + 2))) A := by rw [hFr2.row _ (fun k h1 h2 q => by simp only [WS] at q; omega)]; exact a1
  have hFr3 : Fr (US w0 t k0) M M2 := hFr1.trans hFr2 (fun k q => by simp only [US, WS] at q ⊢; omega) (fun k q => by simp only [US, WS] at q ⊢; omega)
  have fin : ∀ (M3 : MM) (A1 B1 : Row), Fr (US w0 t k0) M M3 → OK b A1 → OK b B1 → wkR Y A1 = tuA Y s A B → wkR Y B1 = tuB Y s A B → Ag (wrow M3 (w0 + 4 * (2 * k0 + 2))) A1 → Ag (wrow M3 (w0 + 4 * (2 * k0 + 3))) B1 → PT k E Q 0 0 Sh N G M3 83 [some (.ref q), some (.int (nI k0)), some (.int (nI s)), some (.int (nI (tuUp Y s A B))), some (.int (nI (2 * k0)))] [] := by
    intro M3 A1 B1 hFr4 oA oB eA eB a3 c3
    have hY3 : YC M3 yd Y := hY.cong (hFr4 _ (by simp only [US, TS]; omega)) (hFr4 _ (by simp only [US, TS]; omega))
    refine r_aload_n C 0 rfl rfl rfl rfl ?_
    refine r_getv C rfl f_X7_9 (by assumption) rfl ?_
    refine r_aload_n C 0 rfl rfl rfl rfl ?_
    refine r_getv C rfl f_X7_15 (by assumption) rfl ?_
    refine r_iload C rfl rfl ?_
    refine r_ic (v := nI 2) C rfl (by decide) ?_
    refine r_iadd C rfl ?_
    rw [nI_add]
    refine r_aald C rfl b0 (2 * k0 + 2) rfl (by omega) (by decide) rfl ?_
    refine v1_g C rfl mfX9_pass lk_X7_56 (by assumption) (p_pass w2 hT (by omega) hY3 hF oA (by omega) a3) ?_
    rintro z M4 ⟨rfl, a4, hFr5⟩
    have c4 : Ag (wrow M4 (w0 + 4 * (2 * k0 + 3))) B1 := by rw [hFr5.row _ (fun k h1 h2 q => by simp only [WS] at q; omega)]; exact c3
    have hFr6 : Fr (US w0 t k0) M M4 := hFr4.trans hFr5 (fun _ q => q) (fun k q => by simp only [US, WS, TS] at q ⊢; omega)
    have hY4 : YC M4 yd Y := hY.cong (hFr6 _ (by simp only [US, TS]; omega)) (hFr6 _ (by simp only [US, TS]; omega))
    refine r_pop C rfl rfl ?_
    refine r_aload_n C 0 rfl rfl rfl rfl ?_
    refine r_getv C rfl f_X7_9 (by assumption) rfl ?_
    refine r_aload_n C 0 rfl rfl rfl rfl ?_
    refine r_getv C rfl f_X7_15 (by assumption) rfl ?_
    refine r_iload C rfl rfl ?_
    refine r_ic (v := nI 3) C rfl (by decide) ?_
    refine r_iadd C rfl ?_
    rw [nI_add]
    refine r_aald C rfl b0 (2 * k0 + 3) rfl (by omega) (by decide) rfl ?_
    refine v1_g C rfl mfX9_pass lk_X7_56 (by assumption) (p_pass w3 hT (by omega) hY4 hF oB (by omega) c4) ?_
    rintro z M5 ⟨rfl, c5, hFr7⟩
    have a5 : Ag (wrow M5 (w0 + 4 * (2 * k0 + 2))) (wkR Y A1) := by rw [hFr7.row _ (fun k h1 h2 q => by simp only [WS] at q; omega)]; exact a4
    refine r_pop C rfl rfl ?_
    refine q_vret C hQ rfl rfl ⟨rfl, rfl, rfl, hFr6.trans hFr7 (fun _ q => q) (fun k q => by simp only [US, WS, TS] at q ⊢; omega), fun _ => ?_⟩
    rw [← eA, ← eB]
    exact ⟨a5, c5⟩
  refine r_aload_n C 0 rfl rfl rfl rfl ?_
  refine r_getv C rfl f_X7_15 (by assumption) rfl ?_
  refine r_iload C rfl rfl ?_
  refine r_ic (v := nI 2) C rfl (by decide) ?_
  refine r_iadd C rfl ?_
  rw [nI_add]
  refine r_iload_n C 2 rfl rfl rfl ?_
  refine r_iadd C rfl ?_
  rw [nI_add]
  rcases (show s = 0 ∨ s = 1 by omega) with e | e
  · subst e
    have h24 : mno A + tuUp Y 0 A B ≤ 24 := h24
    refine r_aald C rfl b0 (2 * k0 + 2) rfl (by omega) (by decide) rfl ?_
    refine r_iload_n C 3 rfl rfl rfl ?_
    refine v1_g C rfl mfX8_raise lk_X7_52 (by assumption) (p_raise w2 (tuUp Y 0 A B) rfl hA h24 a2) ?_
    rintro z M3 ⟨rfl, a3, hFr4⟩
    exact fin M3 (rsR (tuUp Y 0 A B) A) B (hFr3.trans hFr4 (fun _ q => q) (fun k q => by simp only [US, WS] at q ⊢; omega)) (ok_rs hA h24) hB rfl rfl a3 (by rw [hFr4.row _ (fun k h1 h2 q => by simp only [WS] at q; omega)]; exact c2)
  · subst e
    have h24 : mno B + tuUp Y 1 A B ≤ 24 := h24
    refine r_aald C rfl b0 (2 * k0 + 3) rfl (by omega) (by decide) rfl ?_
    refine r_iload_n C 3 rfl rfl rfl ?_
    refine v1_g C rfl mfX8_raise lk_X7_52 (by assumption) (p_raise w3 (tuUp Y 1 A B) rfl hB h24 c2) ?_
    rintro z M3 ⟨rfl, a3, hFr4⟩
    exact fin M3 A (rsR (tuUp Y 1 A B) B) (hFr3.trans hFr4 (fun _ q => q) (fun k q => by simp only [US, WS] at q ⊢; omega)) hA (ok_rs hB h24) rfl rfl (by rw [hFr4.row _ (fun k h1 h2 q => by simp only [WS] at q; omega)]; exact a2) a3
/-- the best that the turner has -/
def UB (M : MM) (q : Nat) (st : Nat × Nat) : Prop := M q 3 = nI st.1 - nI 1 ∧ M q 4 = nI st.2
theorem m1_lt {x n : Nat} (hx : x < 2 ^ 29) (hn : n < 2 ^ 29) : (nI x - nI 1 < nI n) ↔ x < n + 1 := by
  rw [Int32.lt_iff_toInt_lt, pk_sub_toInt (by omega) (by omega), nI_toInt (by omega)]
  omega
theorem u_seek (hU : TU Sh N q t bw) (hBe : BA Sh N bw w0 yd) (hT : TA Sh N t yd) (hd1 : t + 3 ≤ w0) (hq : w0 + 64 ≤ q) (hF : Y.Fine) {wk : Nat} (hwk : wk ≤ 8) :
    ∀ (f k0 n0 r0 : Nat) (M : MM) (A B : Row) (b : Nat) (st : Nat × Nat), k0 + f = wk → M q 2 = nI wk → UB M q st → st.1 ≤ 25 → st.2 < 2 ^ 8 → n0 ≤ 3 * k0 → r0 < 2 ^ k0 → YC M yd Y → b + f < 2 ^ 27 → (0 < f → OK b A ∧ OK b B ∧ Ag (wrow M (w0 + 4 * (2 * k0))) A ∧ Ag (wrow M (w0 + 4 * (2 * k0 + 1))) B) →
    Con E mX7_seek (6 + f) 0 0 [.ref q, .int (nI k0), .int (nI n0), .int (nI r0)] Sh N G M (PR Sh N (fun z M' => z = none ∧ Fr (fun c => US w0 t k0 c ∨ c = q) M M' ∧ M' q 2 = nI wk ∧ UB M' q (tuF Y f k0 n0 r0 A B st))) nox := by
  have hU' := hU
  unfold TU at hU
  obtain ⟨b0, b1⟩ := id hBe
  have t3 := hT.2.2.2
  have yb := (b1 0 (by omega)).2.2.2.2.2
  intro f
  induction f with
  | zero =>
    intro k0 n0 r0 M A B b st hk hM2 hS s1 s2 hn hr hY hb hW
    refine Con.ofQ (by decide +kernel) (by simp [Value.category]) (Nat.le_of_ble_eq_true rfl) (fun k C0 Q hQ => ?_)
    have C : CK k E mX7_seek kdX7_seek 6 0 0 := ⟨C0, kdX7_seek_ok⟩
    refine r_iload_n C 2 rfl rfl rfl ?_
    refine r_ic (v := nI 3) C rfl (by decide) ?_
    refine r_aload_n C 0 rfl rfl rfl rfl ?_
    refine r_geti C rfl f_X7_19 (by assumption) rfl ?_
    rw [hM2]
    refine r_iload_n C 1 rfl rfl rfl ?_
    refine r_isub C rfl ?_
    rw [pk_sub (by omega)]
    refine r_imul C rfl ?_
    rw [pk_mul]
    refine r_iadd C rfl ?_
    rw [nI_add]
    refine r_aload_n C 0 rfl rfl rfl rfl ?_
    refine r_geti C rfl f_X7_23 (by assumption) rfl ?_
    rw [hS.1]
    refine r_icmp_gt C 18 rfl (by decide) (fun h => ?_) (fun h => ?_)
    rotate_left
    · have h := fun z => h ((m1_lt (by omega) (by omega)).mpr z)
      refine q_vret C hQ rfl rfl ⟨rfl, rfl, rfl, Fr.rfl, hM2, ?_⟩
      rw [tuF, if_neg (fun z => h (by omega))]
      exact hS
    have h := (m1_lt (by omega) (by omega)).mp h
    refine r_iload_n C 1 rfl rfl rfl ?_
    refine r_aload_n C 0 rfl rfl rfl rfl ?_
    refine r_geti C rfl f_X7_19 (by assumption) rfl ?_
    rw [hM2]
    refine r_icmp_ge C 39 rfl (by decide) (fun _ => ?_) (fun z => absurd ((nI_leI (by omega) (by omega)).mpr (by omega)) z)
    refine r_aload_n C 0 rfl rfl rfl rfl ?_
    refine r_iload_n C 2 rfl rfl rfl ?_
    refine r_puti C rfl f_X7_23 (by assumption) rfl rfl rfl ?_
    refine r_aload_n C 0 rfl rfl rfl rfl ?_
    refine r_iload_n C 3 rfl rfl rfl ?_
    refine r_puti C rfl f_X7_26 (by assumption) rfl rfl rfl ?_
    refine q_vret C hQ rfl rfl ⟨rfl, rfl, rfl, fun c hc => ?_, ?_, ?_⟩
    · rw [up_row _ _ (by omega), up_row _ _ (by omega)]
    · rw [up_ne _ _ (by omega), up_ne _ _ (by omega)]; exact hM2
    · rw [tuF, if_pos (by omega)]
      refine ⟨?_, up_same _ _ _ _⟩
      rw [up_ne _ _ (by omega), up_same, pk_sub (by omega)]
      rfl
  | succ f ih =>
    intro k0 n0 r0 M A B b st hk hM2 hS s1 s2 hn hr hY hb hW
    obtain ⟨oA, oB, aA, aB⟩ := hW (by omega)
    have hp8 : 2 ^ k0 ≤ 2 ^ 8 := Nat.pow_le_pow_right (by decide) (by omega)
    have wa := b1 (2 * k0) (by omega)
    have wb := b1 (2 * k0 + 1) (by omega)
    obtain ⟨xa, -, -, -, -, -⟩ := id wa
    obtain ⟨xb, -, -, -, -, -⟩ := id wb
    refine Con.ofQ (by decide +kernel) (by simp [Value.category]) (Nat.le_of_ble_eq_true rfl) (fun k C0 Q hQ => ?_)
    have C : CK k E mX7_seek kdX7_seek (6+(f+1)) 0 0 := ⟨C0, kdX7_seek_ok⟩
    refine r_iload_n C 2 rfl rfl rfl ?_
    refine r_ic (v := nI 3) C rfl (by decide) ?_
    refine r_aload_n C 0 rfl rfl rfl rfl ?_
    refine r_geti C rfl f_X7_19 (by assumption) rfl ?_
    rw [hM2]
    refine r_iload_n C 1 rfl rfl rfl ?_
    refine r_isub C rfl ?_
    rw [pk_sub (by omega)]
    refine r_imul C rfl ?_
    rw [pk_mul]
    refine r_iadd C rfl ?_
    rw [nI_add]
    refine r_aload_n C 0 rfl rfl rfl rfl ?_
    refine r_geti C rfl f_X7_23 (by assumption) rfl ?_
    rw [hS.1]
    refine r_icmp_gt C 18 rfl (by decide) (fun h => ?_) (fun h => ?_)
    rotate_left
    · have h := fun z => h ((m1_lt (by omega) (by omega)).mpr z)
      refine q_vret C hQ rfl rfl ⟨rfl, rfl, rfl, Fr.rfl, hM2, ?_⟩
      rw [tuF_cut Y (fun z => h (by omega))]
      exact hS
    clear h
    refine r_iload_n C 1 rfl rfl rfl ?_
    refine r_aload_n C 0 rfl rfl rfl rfl ?_
    refine r_geti C rfl f_X7_19 (by assumption) rfl ?_
    rw [hM2]
    refine r_icmp_ge C 39 rfl (by decide) (fun z => absurd (le_nI (by omega) (by omega) z) (by omega)) (fun _ => ?_)
    refine r_ic (v := nI 2) C rfl (by decide) ?_
    refine r_iload_n C 1 rfl rfl rfl ?_
    refine r_imul C rfl ?_
    rw [pk_mul]
    refine r_ic (v := nI 1) C rfl (by decide) ?_
    refine r_iadd C rfl ?_
    rw [nI_add]
    refine r_aload_n C 0 rfl rfl rfl rfl ?_
    refine r_getv C rfl f_X7_15 (by assumption) rfl ?_
    refine r_alen4 C rfl (by assumption) ?_
    refine r_icmp_lt C 50 rfl (by decide) (fun _ => ?_) (fun z => absurd ((nI_ltI (by omega) (by omega)).mpr (by omega)) z)
    have step : ∀ (s : Nat) (M1 : MM) (st1 : Nat × Nat) (v5 : Option Value), s < 2 → Fr (fun c => US w0 t k0 c ∨ c = q) M M1 → M1 q 2 = nI wk → UB M1 q st1 → st1.1 ≤ 25 → st1.2 < 2 ^ 8 → (∀ M2, Fr (fun c => US w0 t k0 c ∨ c = q) M M2 → M2 q 2 = nI wk → UB M2 q (tuF Y f (k0 + 1) (n0 + tuUp Y s A B) (r0 + s * 2 ^ k0) (tuA Y s A B) (tuB Y s A B) st1) → PT k E Q 0 0 Sh N G M2 105 [some (.ref q), some (.int (nI k0)), some (.int (nI n0)), some (.int (nI r0)), some (.int (nI s)), some (.int (nI (tuUp Y s A B)))] []) → PT k E Q 0 0 Sh N G M1 53 [some (.ref q), some (.int (nI k0)), some (.int (nI n0)), some (.int (nI r0)), some (.int (nI s)), v5] [] := by
      intro s M1 st1 v5 hs hFr hM12 hS1 s11 s12 K
      have hY1 : YC M1 yd Y := hY.cong (hFr _ (by simp only [US, TS]; omega)) (hFr _ (by simp only [US, TS]; omega))
      have aA1 : Ag (wrow M1 (w0 + 4 * (2 * k0))) A := by rw [hFr.row _ (fun k h1 h2 q => by simp only [US, TS] at q; omega)]; exact aA
      have aB1 : Ag (wrow M1 (w0 + 4 * (2 * k0 + 1))) B := by rw [hFr.row _ (fun k h1 h2 q => by simp only [US, TS] at q; omega)]; exact aB
      have hi9 := (hiY_le Y (if s = 0 then A else B)).1
      have ub := tuUp_le Y s A B
      have go : PT k E Q 0 0 Sh N G M1 77 [some (.ref q), some (.int (nI k0)), some (.int (nI n0)), some (.int (nI r0)), some (.int (nI s)), v5] [.int (nI (tuUp Y s A B))] := by
        refine r_istore C rfl (by exact Nat.le_of_ble_eq_true rfl) ?_
        refine r_aload_n C 0 rfl rfl rfl rfl ?_
        refine r_iload_n C 1 rfl rfl rfl ?_
        refine r_iload C rfl rfl ?_
        refine r_iload C rfl rfl ?_
        refine v3_g C rfl mfX7_goOn lk_X7_49 (by assumption) (u_goOn hU' hBe hT hd1 hF hwk (by omega) hs hM12 hq hY1 oA oB (by omega) aA1 aB1) ?_
        rintro z M2 ⟨rfl, hFr2, hW2⟩
        have hFr3 : Fr (fun c => US w0 t k0 c ∨ c = q) M M2 := hFr.trans hFr2 (fun _ z => z) (fun _ z => Or.inl z)
        have e2 : M2 q = M1 q := hFr2 _ (by simp only [US, TS]; omega)
        have hS2 : UB M2 q st1 := by unfold UB; rw [e2]; exact hS1
        have hY2 : YC M2 yd Y := hY.cong (hFr3 _ (by simp only [US, TS]; omega)) (hFr3 _ (by simp only [US, TS]; omega))
        have hM22 : M2 q 2 = nI wk := by rw [e2]; exact hM12
        have hr2 : r0 + s * 2 ^ k0 < 2 ^ (k0 + 1) := by
          have : s * 2 ^ k0 ≤ 1 * 2 ^ k0 := Nat.mul_le_mul_right _ (by omega)
          rw [Nat.pow_succ]
          omega
        obtain ⟨-, ok1, ok2⟩ := tu_ok hF oA oB (by omega) s
        refine r_aload_n C 0 rfl rfl rfl rfl ?_
        refine r_iload_n C 1 rfl rfl rfl ?_
        refine r_ic (v := nI 1) C rfl (by decide) ?_
        refine r_iadd C rfl ?_
        rw [nI_add]
        refine r_iload_n C 2 rfl rfl rfl ?_
        refine r_iload C rfl rfl ?_
        refine r_iadd C rfl ?_
        rw [nI_add]
        refine r_iload_n C 3 rfl rfl rfl ?_
        refine r_iload C rfl rfl ?_
        refine r_iload_n C 1 rfl rfl rfl ?_
        refine r_ishl C rfl ?_
        refine r_ior C rfl ?_
        rw [row_or hr hs (by omega)]
        refine v3_g C rfl mfX7_seek lk_X7_35 (by assumption) (ih (k0 + 1) (n0 + tuUp Y s A B) (r0 + s * 2 ^ k0) M2 (tuA Y s A B) (tuB Y s A B) (b + 1) st1 (by omega) hM22 hS2 s11 s12 (by omega) hr2 hY2 (by omega) (fun hf => ⟨ok1, ok2, (hW2 (by omega)).1, (hW2 (by omega)).2⟩)) ?_
        rintro z M3 ⟨rfl, hFr4, hM32, hS3⟩
        exact K M3 (hFr3.trans hFr4 (fun _ z => z) (fun c z => by simp only [US, TS] at z ⊢; omega)) hM32 hS3
      refine r_iload C rfl rfl ?_
      refine r_ic (v := nI 2) C rfl (by decide) ?_
      refine r_icmp_ge C 111 rfl (by decide) (fun z => absurd (le_nI (by omega) (by omega) z) (by omega)) (fun _ => ?_)
      refine r_ic (v := nI 3) C rfl (by decide) ?_
      refine r_aload_n C 0 rfl rfl rfl rfl ?_
      refine r_getv C rfl f_X7_15 (by assumption) rfl ?_
      refine r_ic (v := nI 2) C rfl (by decide) ?_
      refine r_iload_n C 1 rfl rfl rfl ?_
      refine r_imul C rfl ?_
      rw [pk_mul]
      refine r_iload C rfl rfl ?_
      refine r_iadd C rfl ?_
      rw [nI_add]
      rcases (show s = 0 ∨ s = 1 by omega) with e | e
      · subst e
        refine r_aald C rfl b0 (2 * k0 + 0) rfl (by omega) (by decide) rfl ?_
        refine v0_r C rfl mfX8_roomAbove lk_X7_39 (by assumption) (p_room wa hY1 hF oA aA1) ?_
        refine r_min C rfl lk_X7_43 ?_
        rw [show (if nI (hiY Y A) < nI 3 then nI (hiY Y A) else nI 3) = nI (tuUp Y 0 A B) from min3 _ hi9]
        exact go
      · subst e
        refine r_aald C rfl b0 (2 * k0 + 1) rfl (by omega) (by decide) rfl ?_
        refine v0_r C rfl mfX8_roomAbove lk_X7_39 (by assumption) (p_room wb hY1 hF oB aB1) ?_
        refine r_min C rfl lk_X7_43 ?_
        rw [show (if nI (hiY Y B) < nI 3 then nI (hiY Y B) else nI 3) = nI (tuUp Y 1 A B) from min3 _ hi9]
        exact go
    refine r_ic (v := nI 0) C rfl (by decide) ?_
    refine r_istore C rfl (by exact Nat.le_of_ble_eq_true rfl) ?_
    have u0 := tuUp_le Y 0 A B
    have fb := tuF_b Y (f := f) (k := k0 + 1) (n := n0 + tuUp Y 0 A B) (r := r0 + 0 * 2 ^ k0) (A := tuA Y 0 A B) (B := tuB Y 0 A B) s1 s2 (by omega) (by rw [Nat.pow_succ]; omega) (by omega)
    refine step 0 M st none (by decide) Fr.rfl hM2 hS s1 s2 ?_
    intro M2 hFr2 hM22 hS2
    refine r_iinc (c := nI 1) C rfl rfl (by decide) ?_
    refine r_goto C 53 rfl (by decide) ?_
    refine r_eqL (L' := [some (.ref q), some (.int (nI k0)), some (.int (nI n0)), some (.int (nI r0)), some (.int (nI 1)), some (.int (nI (tuUp Y 0 A B)))]) rfl ?_
    refine step 1 M2 _ _ (by decide) hFr2 hM22 hS2 fb.1 fb.2 ?_
    intro M3 hFr3 hM32 hS3
    refine r_iinc (c := nI 1) C rfl rfl (by decide) ?_
    refine r_goto C 53 rfl (by decide) ?_
    refine r_eqL (L' := [some (.ref q), some (.int (nI k0)), some (.int (nI n0)), some (.int (nI r0)), some (.int (nI 2)), some (.int (nI (tuUp Y 1 A B)))]) rfl ?_
    refine r_iload C rfl rfl ?_
    refine r_ic (v := nI 2) C rfl (by decide) ?_
    refine r_icmp_ge C 111 rfl (by decide) (fun _ => ?_) (fun z => absurd (by decide) z)
    exact q_vret C hQ rfl rfl ⟨rfl, rfl, rfl, hFr3, hM32, hS3⟩
theorem u_search (hU : TU Sh N q t bw) (hBe : BA Sh N bw w0 yd) (hT : TA Sh N t yd) (hd1 : t + 3 ≤ w0) (hq : w0 + 64 ≤ q) (hA1 : WA Sh N w yd) (hA2 : WA Sh N v yd) (hw : w + 4 ≤ t) (hv : v + 4 ≤ t) (hF : Y.Fine) {x : Int32} (wk : Nat) (hx : x = nI wk) (hwk : wk ≤ 8) (hw1 : 1 ≤ wk) (hY : YC M yd Y) (hA : OK b A) (hB : OK b B) (hb : b < 2 ^ 26) (a : Ag (wrow M w) A) (c : Ag (wrow M v) B) :
    Con E mX7_search 15 0 0 [.ref q, .ref w, .ref v, .int x] Sh N G M (PR Sh N (fun z M' => z = none ∧ Fr (fun c => (w0 ≤ c ∧ c < w0 + 64) ∨ TS t c ∨ c = q) M M' ∧ UB M' q (tuF Y wk 0 0 0 A B (0, 0)))) nox := by
  subst hx
  have hU' := hU
  unfold TU at hU
  obtain ⟨b0, b1⟩ := id hBe
  have t3 := hT.2.2.2
  have wa := b1 0 (by omega)
  have wb := b1 1 (by omega)
  obtain ⟨xa, -, -, -, -, ya⟩ := id wa
  obtain ⟨xb, -, -, -, -, yb⟩ := id wb
  refine Con.ofQ (by decide +kernel) (by simp [Value.category]) (Nat.le_of_ble_eq_true rfl) (fun k C0 Q hQ => ?_)
  have C : CK k E mX7_search kdX7_search 15 0 0 := ⟨C0, kdX7_search_ok⟩
  refine r_aload_n C 0 rfl rfl rfl rfl ?_
  refine r_iload_n C 3 rfl rfl rfl ?_
  refine r_puti C rfl f_X7_19 (by assumption) rfl rfl rfl ?_
  refine r_aload_n C 0 rfl rfl rfl rfl ?_
  refine r_ic (v := (-1)) C rfl (by decide) ?_
  refine r_puti C rfl f_X7_23 (by assumption) rfl rfl rfl ?_
  refine r_aload_n C 0 rfl rfl rfl rfl ?_
  refine r_ic (v := nI 0) C rfl (by decide) ?_
  refine r_puti C rfl f_X7_26 (by assumption) rfl rfl rfl ?_
  obtain ⟨M1, hM1⟩ : ∃ M1, M1 = up (up (up M q 2 (nI wk)) q 3 (-1)) q 4 (nI 0) := ⟨_, rfl⟩
  rw [← hM1]
  have hFr1 : Fr (fun c => c = q) M M1 := fun k hk => by rw [hM1, up_row _ _ hk, up_row _ _ hk, up_row _ _ hk]
  have e2 : M1 q 2 = nI wk := by rw [hM1, up_ne _ _ (by omega), up_ne _ _ (by omega), up_same]
  have eS : UB M1 q (0, 0) := ⟨by rw [hM1, up_ne _ _ (by omega), up_same]; rfl, by rw [hM1, up_same]⟩
  have a1 : Ag (wrow M1 w) A := by rw [hFr1.row _ (fun k h1 h2 z => by omega)]; exact a
  have c1 : Ag (wrow M1 v) B := by rw [hFr1.row _ (fun k h1 h2 z => by omega)]; exact c
  refine r_aload_n C 0 rfl rfl rfl rfl ?_
  refine r_getv C rfl f_X7_15 (by assumption) rfl ?_
  refine r_ic (v := nI 0) C rfl (by decide) ?_
  refine r_aald C rfl b0 (0) rfl (by omega) (by decide) rfl ?_
  refine r_aload_n C 1 rfl rfl rfl rfl ?_
  refine v1_g C rfl mfX8_become lk_X7_29 (by assumption) (p_become wa hA1 (by omega) hA a1) ?_
  rintro z M2 ⟨rfl, a2, hFr2⟩
  have c2 : Ag (wrow M2 v) B := by rw [hFr2.row _ (fun k h1 h2 z => by simp only [WS] at z; omega)]; exact c1
  refine r_aload_n C 0 rfl rfl rfl rfl ?_
  refine r_getv C rfl f_X7_15 (by assumption) rfl ?_
  refine r_ic (v := nI 1) C rfl (by decide) ?_
  refine r_aald C rfl b0 (1) rfl (by omega) (by decide) rfl ?_
  refine r_aload_n C 2 rfl rfl rfl rfl ?_
  refine v1_g C rfl mfX8_become lk_X7_29 (by assumption) (p_become wb hA2 (by omega) hB c2) ?_
  rintro z M3 ⟨rfl, c3, hFr3⟩
  have a3 : Ag (wrow M3 (w0 + 4 * 0)) A := by rw [hFr3.row _ (fun k h1 h2 z => by simp only [WS] at z; omega)]; exact a2
  have e3 : M3 q = M1 q := (hFr3 q (by simp only [WS]; omega)).trans (hFr2 q (by simp only [WS]; omega))
  have hFr4 : Fr (fun c => (w0 ≤ c ∧ c < w0 + 64) ∨ TS t c ∨ c = q) M M3 := (hFr1.trans hFr2 (U := fun c => (w0 ≤ c ∧ c < w0 + 64) ∨ TS t c ∨ c = q) (fun _ z => Or.inr (Or.inr z)) (fun k z => by simp only [WS] at z; omega)).trans hFr3 (fun _ z => z) (fun k z => by simp only [WS] at z; omega)
  have hY3 : YC M3 yd Y := hY.cong (hFr4 _ (by simp only [TS]; omega)) (hFr4 _ (by simp only [TS]; omega))
  refine r_aload_n C 0 rfl rfl rfl rfl ?_
  refine r_ic (v := nI 0) C rfl (by decide) ?_
  refine r_ic (v := nI 0) C rfl (by decide) ?_
  refine r_ic (v := nI 0) C rfl (by decide) ?_
  refine v3_g C rfl mfX7_seek lk_X7_35 (by assumption) (u_seek hU' hBe hT hd1 hq hF hwk wk 0 0 0 M3 A B b (0, 0) (by omega) (by rw [e3]; exact e2) (by unfold UB; rw [e3]; exact eS) (by decide) (by decide) (by omega) (by decide) hY3 (by omega) (fun _ => ⟨hA, hB, a3, c3⟩)) ?_
  rintro z M4 ⟨rfl, hFr5, -, hS⟩
  exact q_vret C hQ rfl rfl ⟨rfl, rfl, rfl, hFr4.trans hFr5 (fun _ z => z) (fun k z => by simp only [US, TS] at z ⊢; omega), hS⟩
end TURN
