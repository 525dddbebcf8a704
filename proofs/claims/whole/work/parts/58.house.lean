section HOUSE
variable {E : VE} {Sh : Nat → SE} {N : Nat} {G : Bool} {M : MM} {o r w v yd yv t b w0 fo p bw q kb kh : Nat}
/-- the sum over the set s of n houses -/
def hS : Nat → (Nat → Int32) → Nat → Int32
  | 0, _, _ => 0
  | n + 1, f, s => nI (s % 2) * f 0 + hS n (fun i => f (i + 1)) (s / 2)
/-- what comes in less what goes out, from the set ahead to the set s -/
def hD : Nat → (Nat → Int32) → Nat → Int32
  | 0, f, _ => f 0
  | n + 1, f, s => if n = 0 ∨ s % 2 = 1 then f 0 else - f 0 + hD n (fun i => f (i + 1)) (s / 2)
theorem hS_0 : ∀ (n : Nat) (f : Nat → Int32), hS n f 0 = 0
  | 0, _ => rfl
  | n + 1, f => by
    rw [hS, Nat.zero_div, hS_0 n]
    show nI 0 * f 0 + 0 = 0
    rw [show nI 0 = (0 : Int32) from rfl, Int32.zero_mul, Int32.add_zero]
theorem hS_step : ∀ (n : Nat) (f : Nat → Int32) (s : Nat), 1 ≤ s → s < 2 ^ n → hS n f s = hS n f (s - 1) + hD n f s
  | 0, f, s, h1, h2 => by rw [Nat.pow_zero] at h2; omega
  | n + 1, f, s, h1, h2 => by
    rw [Nat.pow_succ] at h2
    rcases Nat.mod_two_eq_zero_or_one s with e | e
    · have hn : n ≠ 0 := fun z => by rw [z, Nat.pow_zero] at h2; omega
      have ih := hS_step n (fun i => f (i + 1)) (s / 2) (by omega) (by omega)
      rw [hS, hS, hD, if_neg (by omega), e, ih, show (s - 1) % 2 = 1 by omega, show (s - 1) / 2 = s / 2 - 1 by omega]
      rw [show nI 0 = (0 : Int32) from rfl, show nI 1 = (1 : Int32) from rfl, Int32.zero_mul, Int32.one_mul, Int32.zero_add]
      rw [Int32.add_comm (f 0), Int32.add_assoc, ← Int32.add_assoc (f 0), Int32.add_right_neg, Int32.zero_add]
    · rw [hS, hS, hD, if_pos (Or.inr e), e, show (s - 1) % 2 = 0 by omega, show (s - 1) / 2 = s / 2 by omega]
      rw [show nI 0 = (0 : Int32) from rfl, show nI 1 = (1 : Int32) from rfl, Int32.zero_mul, Int32.one_mul, Int32.zero_add, Int32.add_comm]
/-- the best of the first m sets: its worth, its cost, the set -/
def hoX (wv cv : Nat → Int32) (n : Nat) (coin : Int32) : Nat → Int32 × Int32 × Nat
  | 0 => (0, 0, 0)
  | m + 1 => if hS n cv (m + 1) ≤ coin ∧ ((hoX wv cv n coin m).1 < hS n wv (m + 1) ∨ (hS n wv (m + 1) = (hoX wv cv n coin m).1 ∧ hS n cv (m + 1) < (hoX wv cv n coin m).2.1)) then (hS n wv (m + 1), hS n cv (m + 1), m + 1) else hoX wv cv n coin m
def KH (Sh : Nat → SE) (N kh : Nat) : Prop := At Sh N kh (.inr (3, [some (.ref (kh + 1)), some (.ref (kh + 2)), none, none, none, none])) ∧ At Sh N (kh + 1) (arE 0 12) ∧ At Sh N (kh + 2) (arE 0 12)
def HOC (M : MM) (kh n : Nat) (wv cv : Nat → Int32) : Prop := n ≤ 12 ∧ M kh 2 = nI n ∧ ∀ i, i < n → M (kh + 1) i = wv i ∧ M (kh + 2) i = cv i
theorem HOC.cong {M' : MM} {n : Nat} {wv cv : Nat → Int32} (h : HOC M kh n wv cv) (h1 : M' kh 2 = M kh 2) (h2 : M' (kh + 1) = M (kh + 1)) (h3 : M' (kh + 2) = M (kh + 2)) : HOC M' kh n wv cv := by
  unfold HOC
  rw [h1, h2, h3]
  exact h
def hoNo (n : Nat) (a c e : Int32) : Bool := decide (n = 12) || !(inI a 0 (nI 1000) && inI c 0 (nI 99) && inI e (nI 1) (nI 999))
theorem h_forget (hK : KH Sh N kh) (wv cv : Nat → Int32) : Con E mX3_forget 1 0 0 [.ref kh] Sh N G M (PR Sh N (fun v M' => v = none ∧ Fr (fun x => x = kh) M M' ∧ HOC M' kh 0 wv cv)) nox := by
  have k0 := hK.1
  refine Con.ofQ (by decide +kernel) (by simp [Value.category]) (Nat.le_of_ble_eq_true rfl) (fun k C0 Q hQ => ?_)
  have C : CK k E mX3_forget kdX3_forget 1 0 0 := ⟨C0, kdX3_forget_ok⟩
  refine r_aload_n C 0 rfl rfl rfl rfl ?_
  refine r_ic (v := nI 0) C rfl (by decide) ?_
  refine r_puti C rfl f_X3_16 (by assumption) rfl rfl rfl ?_
  exact q_vret C hQ rfl rfl ⟨rfl, rfl, rfl, fun x hx => up_row _ _ hx, by omega, up_same _ _ _ _, fun i hi => absurd hi (Nat.not_lt_zero i)⟩
theorem h_add (hK : KH Sh N kh) {n : Nat} {wv cv : Nat → Int32} (hH : HOC M kh n wv cv) (x y z : Int32) : Con E mX3_add 1 0 0 [.ref kh, .int x, .int y, .int z] Sh N G M (PR Sh N (fun v M' => v = some (.int (bI (!hoNo n x y z))) ∧ Fr (fun c => kh ≤ c ∧ c < kh + 3) M M' ∧ HOC M' kh (if hoNo n x y z = true then n else n + 1) (if hoNo n x y z = true then wv else upd wv n (x * y)) (if hoNo n x y z = true then cv else upd cv n z))) nox := by
  obtain ⟨k0, k1, k2⟩ := id hK
  have hH' := hH
  obtain ⟨hn, h2, ha⟩ := hH
  refine Con.ofQ (by decide +kernel) (by simp [Value.category]) (Nat.le_of_ble_eq_true rfl) (fun k C0 Q hQ => ?_)
  have C : CK k E mX3_add kdX3_add 1 0 0 := ⟨C0, kdX3_add_ok⟩
  obtain ⟨as, has⟩ : ∃ as, as = (inI x 0 (nI 1000) && inI y 0 (nI 99) && inI z (nI 1) (nI 999)) := ⟨_, rfl⟩
  have hno : hoNo n x y z = (decide (n = 12) || !as) := by rw [hoNo, has]
  have mid : PT k E Q 0 0 Sh N G M 38 [some (.ref kh), some (.int x), some (.int y), some (.int z), none] [.int (bI as)] := by
    refine r_istore C rfl (by exact Nat.le_of_ble_eq_true rfl) ?_
    refine r_aload_n C 0 rfl rfl rfl rfl ?_
    refine r_geti C rfl f_X3_16 (by assumption) rfl ?_
    rw [h2]
    refine r_bi (v := nI 12) C rfl (by decide) ?_
    refine r_icmp_ge C 54 rfl (by decide) (fun h => ?_) (fun h => ?_)
    · have h := le_nI (by omega) (by omega) h
      have e : hoNo n x y z = true := by rw [hno, decide_eq_true (by omega), Bool.true_or]
      refine r_ic (v := nI 0) C rfl (by decide) ?_
      exact q_iret C hQ rfl rfl rfl ⟨rfl, rfl, by rw [e]; rfl, Fr.rfl, by rw [e, if_pos rfl, if_pos rfl, if_pos rfl]; exact hH'⟩
    have h := nle_nI (by omega) (by omega) h
    refine r_iload C rfl rfl ?_
    refine r_if_ne C 56 rfl (by decide) (fun h3 => ?_) (fun h3 => ?_)
    rotate_left
    · have e : hoNo n x y z = true := by rw [hno, bI_0 h3, Bool.not_false, Bool.or_true]
      refine r_ic (v := nI 0) C rfl (by decide) ?_
      exact q_iret C hQ rfl rfl rfl ⟨rfl, rfl, by rw [e]; rfl, Fr.rfl, by rw [e, if_pos rfl, if_pos rfl, if_pos rfl]; exact hH'⟩
    have e : hoNo n x y z = false := by rw [hno, bI_1 h3, decide_eq_false (by omega)]; rfl
    refine r_aload_n C 0 rfl rfl rfl rfl ?_
    refine r_getv C rfl f_X3_9 (by assumption) rfl ?_
    refine r_aload_n C 0 rfl rfl rfl rfl ?_
    refine r_geti C rfl f_X3_16 (by assumption) rfl ?_
    rw [h2]
    refine r_iload_n C 1 rfl rfl rfl ?_
    refine r_iload_n C 2 rfl rfl rfl ?_
    refine r_imul C rfl ?_
    refine r_iast C rfl (by assumption) (n) rfl (by omega) (by decide) ?_
    refine r_aload_n C 0 rfl rfl rfl rfl ?_
    refine r_getv C rfl f_X3_13 (by assumption) rfl ?_
    refine r_aload_n C 0 rfl rfl rfl rfl ?_
    refine r_geti C rfl f_X3_16 (by assumption) rfl ?_
    rw [up_row M _ (by omega), h2]
    refine r_iload_n C 3 rfl rfl rfl ?_
    refine r_iast C rfl (by assumption) (n) rfl (by omega) (by decide) ?_
    refine r_aload_n C 0 rfl rfl rfl rfl ?_
    refine r_dup C rfl rfl ?_
    refine r_geti C rfl f_X3_16 (by assumption) rfl ?_
    rw [up_row _ _ (by omega), up_row M _ (by omega), h2]
    refine r_ic (v := nI 1) C rfl (by decide) ?_
    refine r_iadd C rfl ?_
    rw [nI_add]
    refine r_puti C rfl f_X3_16 (by assumption) rfl rfl rfl ?_
    refine r_ic (v := nI 1) C rfl (by decide) ?_
    refine q_iret C hQ rfl rfl rfl ⟨rfl, rfl, by rw [e]; rfl, fun c hc => by rw [up_row _ _ (by omega), up_row _ _ (by omega), up_row _ _ (by omega)], ?_⟩
    rw [e, if_neg (by decide), if_neg (by decide), if_neg (by decide)]
    refine ⟨by omega, up_same _ _ _ _, fun i hi => ?_⟩
    by_cases ei : i = n
    · subst ei
      refine ⟨?_, ?_⟩
      · rw [up_row _ _ (show kh + 1 ≠ kh by omega), up_row _ _ (show kh + 1 ≠ kh + 2 by omega), up_same, upd_self]
      · rw [up_row _ _ (show kh + 2 ≠ kh by omega), up_same, upd_self]
    · refine ⟨?_, ?_⟩
      · rw [up_row _ _ (show kh + 1 ≠ kh by omega), up_row _ _ (show kh + 1 ≠ kh + 2 by omega), up_ne _ _ (by omega), upd_other _ _ ei]
        exact (ha i (by omega)).1
      · rw [up_row _ _ (show kh + 2 ≠ kh by omega), up_ne _ _ (by omega), upd_other _ _ ei, up_row _ _ (show kh + 2 ≠ kh + 1 by omega)]
        exact (ha i (by omega)).2
  have no : as = false → PT k E Q 0 0 Sh N G M 37 [some (.ref kh), some (.int x), some (.int y), some (.int z), none] [] := by
    intro h
    refine r_ic (v := nI 0) C rfl (by decide) ?_
    refine r_top (bI as) (by rw [h]; rfl) ?_
    exact mid
  refine r_iload_n C 1 rfl rfl rfl ?_
  refine r_if_lt C 37 rfl (by decide) (fun h => no (by rw [has, inI_lo h]; rfl)) (fun h => ?_)
  refine r_iload_n C 1 rfl rfl rfl ?_
  refine r_si (v := nI 1000) C rfl (by decide) ?_
  refine r_icmp_gt C 37 rfl (by decide) (fun h => no (by rw [has, inI_hi h]; rfl)) (fun h' => ?_)
  refine r_iload_n C 2 rfl rfl rfl ?_
  refine r_if_lt C 37 rfl (by decide) (fun h => no (by rw [has, inI_lo (s := y) h, Bool.and_false]; rfl)) (fun h3 => ?_)
  refine r_iload_n C 2 rfl rfl rfl ?_
  refine r_bi (v := nI 99) C rfl (by decide) ?_
  refine r_icmp_gt C 37 rfl (by decide) (fun h => no (by rw [has, inI_hi (s := y) h, Bool.and_false]; rfl)) (fun h4 => ?_)
  refine r_iload_n C 3 rfl rfl rfl ?_
  refine r_ic (v := nI 1) C rfl (by decide) ?_
  refine r_icmp_lt C 37 rfl (by decide) (fun h => no (by rw [has, inI_lo (s := z) h, Bool.and_false])) (fun h5 => ?_)
  refine r_iload_n C 3 rfl rfl rfl ?_
  refine r_si (v := nI 999) C rfl (by decide) ?_
  refine r_icmp_gt C 37 rfl (by decide) (fun h => no (by rw [has, inI_hi (s := z) h, Bool.and_false])) (fun h6 => ?_)
  refine r_ic (v := nI 1) C rfl (by decide) ?_
  refine r_goto C 38 rfl (by decide) ?_
  refine r_top (bI as) (by rw [has, inI_y h h', inI_y h3 h4, inI_y h5 h6]; rfl) ?_
  exact mid
def HOB (M : MM) (kh : Nat) (st : Int32 × Int32 × Nat) : Prop := M kh 3 = st.1 ∧ M kh 4 = st.2.1 ∧ M kh 5 = nI st.2.2
theorem h_choose (hK : KH Sh N kh) {n : Nat} {wv cv : Nat → Int32} (hH : HOC M kh n wv cv) (coin : Int32) : Con E mX3_choose 1 0 0 [.ref kh, .int coin] Sh N G M (PR Sh N (fun v M' => v = none ∧ Fr (fun c => c = kh) M M' ∧ M' kh 2 = M kh 2 ∧ HOB M' kh (hoX wv cv n coin (2 ^ n - 1)))) nox := by
  obtain ⟨k0, k1, k2⟩ := id hK
  obtain ⟨hn, h2, ha⟩ := hH
  have hp : 2 ^ n ≤ 2 ^ 12 := Nat.pow_le_pow_right (by decide) hn
  have hp0 : 0 < 2 ^ n := Nat.pow_pos (by decide)
  refine Con.ofQ (by decide +kernel) (by simp [Value.category]) (Nat.le_of_ble_eq_true rfl) (fun k C0 Q hQ => ?_)
  have C : CK k E mX3_choose kdX3_choose 1 0 0 := ⟨C0, kdX3_choose_ok⟩
  have big : ∀ (m s : Nat) (M1 : MM) (v5 v6 : Option Value), s + m = 2 ^ n → 1 ≤ s → Fr (fun c => c = kh) M M1 → M1 kh 2 = nI n → HOB M1 kh (hoX wv cv n coin (s - 1)) → PT k E Q 0 0 Sh N G M1 22 [some (.ref kh), some (.int coin), some (.int (hS n wv (s - 1))), some (.int (hS n cv (s - 1))), some (.int (nI s)), v5, v6] [] := by
    intro m
    induction m with
    | zero =>
      intro s M1 v5 v6 hs h1 hFr e2 hB
      refine r_iload C rfl rfl ?_
      refine r_ic (v := nI 1) C rfl (by decide) ?_
      refine r_aload_n C 0 rfl rfl rfl rfl ?_
      refine r_geti C rfl f_X3_16 (by assumption) rfl ?_
      rw [e2]
      refine r_ishl C rfl ?_
      rw [nx_shl (by omega) (by omega), Nat.one_mul]
      refine r_icmp_ge C 166 rfl (by decide) (fun _ => ?_) (fun q => absurd ((nI_leI (by omega) (by omega)).mpr (by omega)) q)
      refine q_vret C hQ rfl rfl ⟨rfl, rfl, rfl, hFr, by rw [e2, h2], ?_⟩
      rw [show 2 ^ n - 1 = s - 1 by omega]
      exact hB
    | succ m ih =>
      intro s M1 v5 v6 hs h1 hFr e2 hB
      have ha1 : ∀ i, i < n → M1 (kh + 1) i = wv i ∧ M1 (kh + 2) i = cv i := fun i hi => by rw [hFr _ (by omega), hFr _ (by omega)]; exact ha i hi
      have hn1 : n ≠ 0 := fun z => by rw [z, Nat.pow_zero] at hs; omega
      have sw := hS_step n wv s h1 (by omega)
      have sc := hS_step n cv s h1 (by omega)
      refine r_iload C rfl rfl ?_
      refine r_ic (v := nI 1) C rfl (by decide) ?_
      refine r_aload_n C 0 rfl rfl rfl rfl ?_
      refine r_geti C rfl f_X3_16 (by assumption) rfl ?_
      rw [e2]
      refine r_ishl C rfl ?_
      rw [nx_shl (by omega) (by omega), Nat.one_mul]
      refine r_icmp_ge C 166 rfl (by decide) (fun q => absurd (le_nI (by omega) (by omega) q) (by omega)) (fun _ => ?_)
      obtain ⟨b3, b4, b5⟩ := hB
      obtain ⟨st, hst⟩ : ∃ st, st = hoX wv cv n coin (s - 1) := ⟨_, rfl⟩
      rw [← hst] at b3 b4 b5
      have hX : hoX wv cv n coin s = if hS n cv s ≤ coin ∧ (st.1 < hS n wv s ∨ (hS n wv s = st.1 ∧ hS n cv s < st.2.1)) then (hS n wv s, hS n cv s, s) else st := by
        obtain ⟨s', rfl⟩ : ∃ s', s = s' + 1 := ⟨s - 1, by omega⟩
        rw [hst, hoX]
        rfl
      have fin : ∀ v5 v6, PT k E Q 0 0 Sh N G M1 103 [some (.ref kh), some (.int coin), some (.int (hS n wv s)), some (.int (hS n cv s)), some (.int (nI s)), v5, v6] [] := by
        intro v5 v6
        have end1 : ∀ M2 v6, Fr (fun c => c = kh) M M2 → M2 kh 2 = nI n → HOB M2 kh (hoX wv cv n coin s) → PT k E Q 0 0 Sh N G M2 160 [some (.ref kh), some (.int coin), some (.int (hS n wv s)), some (.int (hS n cv s)), some (.int (nI s)), v5, v6] [] := by
          intro M2 v6 hFr2 e22 hB2
          refine r_iinc (c := nI 1) C rfl rfl (by decide) ?_
          refine r_goto C 22 rfl (by decide) ?_
          refine r_eqL ?_ (ih (s + 1) M2 v5 v6 (by omega) (by omega) hFr2 e22 (by rw [Nat.add_sub_cancel]; exact hB2))
          rw [Nat.add_sub_cancel, ← nI_add]
          rfl
        have tail : ∀ bt : Bool, (bt = true ↔ (st.1 < hS n wv s ∨ (hS n wv s = st.1 ∧ hS n cv s < st.2.1))) → PT k E Q 0 0 Sh N G M1 132 [some (.ref kh), some (.int coin), some (.int (hS n wv s)), some (.int (hS n cv s)), some (.int (nI s)), v5, v6] [.int (bI bt)] := by
          intro bt hbt
          refine r_istore C rfl (by exact Nat.le_of_ble_eq_true rfl) ?_
          refine r_iload_n C 3 rfl rfl rfl ?_
          refine r_iload_n C 1 rfl rfl rfl ?_
          refine r_icmp_gt C 160 rfl (by decide) (fun h => ?_) (fun h => ?_)
          · refine end1 M1 _ hFr e2 ?_
            rw [hX, if_neg (fun z => Int32.not_le.mpr h z.1)]
            exact ⟨b3, b4, b5⟩
          refine r_iload C rfl rfl ?_
          refine r_if_eq C 160 rfl (by decide) (fun h4 => ?_) (fun h4 => ?_)
          · refine end1 M1 _ hFr e2 ?_
            rw [hX, if_neg (fun z => by have := hbt.mpr z.2; rw [bI_0 h4] at this; cases this)]
            exact ⟨b3, b4, b5⟩
          refine r_aload_n C 0 rfl rfl rfl rfl ?_
          refine r_iload_n C 2 rfl rfl rfl ?_
          refine r_puti C rfl f_X3_20 (by assumption) rfl rfl rfl ?_
          refine r_aload_n C 0 rfl rfl rfl rfl ?_
          refine r_iload_n C 3 rfl rfl rfl ?_
          refine r_puti C rfl f_X3_23 (by assumption) rfl rfl rfl ?_
          refine r_aload_n C 0 rfl rfl rfl rfl ?_
          refine r_iload C rfl rfl ?_
          refine r_puti C rfl f_X3_26 (by assumption) rfl rfl rfl ?_
          refine end1 _ _ (fun c hc => by rw [up_row _ _ hc, up_row _ _ hc, up_row _ _ hc]; exact hFr c hc) (by rw [up_ne _ _ (by omega), up_ne _ _ (by omega), up_ne _ _ (by omega)]; exact e2) ?_
          rw [hX, if_pos ⟨Int32.not_lt.mp h, hbt.mp (bI_1 h4)⟩]
          exact ⟨by rw [up_ne _ _ (by omega), up_ne _ _ (by omega), up_same], by rw [up_ne _ _ (by omega), up_same], up_same _ _ _ _⟩
        have yes : (st.1 < hS n wv s ∨ (hS n wv s = st.1 ∧ hS n cv s < st.2.1)) → PT k E Q 0 0 Sh N G M1 127 [some (.ref kh), some (.int coin), some (.int (hS n wv s)), some (.int (hS n cv s)), some (.int (nI s)), v5, v6] [] := by
          intro h
          refine r_ic (v := nI 1) C rfl (by decide) ?_
          refine r_goto C 132 rfl (by decide) ?_
          exact tail true ⟨fun _ => h, fun _ => rfl⟩
        have no : ¬ (st.1 < hS n wv s ∨ (hS n wv s = st.1 ∧ hS n cv s < st.2.1)) → PT k E Q 0 0 Sh N G M1 131 [some (.ref kh), some (.int coin), some (.int (hS n wv s)), some (.int (hS n cv s)), some (.int (nI s)), v5, v6] [] := by
          intro h
          refine r_ic (v := nI 0) C rfl (by decide) ?_
          exact tail false ⟨fun z => (by cases z), fun z => absurd z h⟩
        refine r_iload_n C 2 rfl rfl rfl ?_
        refine r_aload_n C 0 rfl rfl rfl rfl ?_
        refine r_geti C rfl f_X3_20 (by assumption) rfl ?_
        rw [b3]
        refine r_icmp_gt C 127 rfl (by decide) (fun h => yes (Or.inl h)) (fun h => ?_)
        refine r_iload_n C 2 rfl rfl rfl ?_
        refine r_aload_n C 0 rfl rfl rfl rfl ?_
        refine r_geti C rfl f_X3_20 (by assumption) rfl ?_
        rw [b3]
        refine r_icmp_ne C 131 rfl (by decide) (fun h3 => no (fun z => z.elim h (fun y => h3 y.1))) (fun h3 => ?_)
        refine r_iload_n C 3 rfl rfl rfl ?_
        refine r_aload_n C 0 rfl rfl rfl rfl ?_
        refine r_geti C rfl f_X3_23 (by assumption) rfl ?_
        rw [b4]
        refine r_icmp_ge C 131 rfl (by decide) (fun h4 => no (fun z => z.elim h (fun y => Int32.not_le.mpr y.2 h4))) (fun h4 => yes (Or.inr ⟨h3, Int32.not_le.mp h4⟩))
      have inner : ∀ (m c : Nat) (x y : Int32) (v6 : Option Value), c + m = n → 1 ≤ m → x + hD m (fun i => wv (c + i)) (s / 2 ^ c) = hS n wv s → y + hD m (fun i => cv (c + i)) (s / 2 ^ c) = hS n cv s → PT k E Q 0 0 Sh N G M1 36 [some (.ref kh), some (.int coin), some (.int x), some (.int y), some (.int (nI s)), some (.int (nI c)), v6] [] := by
        intro m
        induction m with
        | zero => intro c x y v6 _ h; omega
        | succ m ihm =>
          intro c x y v6 hc hm hx hy
          have out : hD (m + 1) (fun i => wv (c + i)) (s / 2 ^ c) = wv c → hD (m + 1) (fun i => cv (c + i)) (s / 2 ^ c) = cv c → PT k E Q 0 0 Sh N G M1 83 [some (.ref kh), some (.int coin), some (.int x), some (.int y), some (.int (nI s)), some (.int (nI c)), v6] [] := by
            intro hw1 hc1
            rw [hw1] at hx
            rw [hc1] at hy
            refine r_iload_n C 2 rfl rfl rfl ?_
            refine r_aload_n C 0 rfl rfl rfl rfl ?_
            refine r_getv C rfl f_X3_9 (by assumption) rfl ?_
            refine r_iload C rfl rfl ?_
            refine r_iald C rfl (by assumption) (c) rfl (by omega) (by decide) ?_
            rw [(ha1 c (by omega)).1]
            refine r_iadd C rfl ?_
            refine r_istore_n C 2 rfl rfl (by exact Nat.le_of_ble_eq_true rfl) ?_
            refine r_iload_n C 3 rfl rfl rfl ?_
            refine r_aload_n C 0 rfl rfl rfl rfl ?_
            refine r_getv C rfl f_X3_13 (by assumption) rfl ?_
            refine r_iload C rfl rfl ?_
            refine r_iald C rfl (by assumption) (c) rfl (by omega) (by decide) ?_
            rw [(ha1 c (by omega)).2]
            refine r_iadd C rfl ?_
            refine r_istore_n C 3 rfl rfl (by exact Nat.le_of_ble_eq_true rfl) ?_
            rw [hx, hy]
            exact fin _ _
          refine r_iload C rfl rfl ?_
          refine r_aload_n C 0 rfl rfl rfl rfl ?_
          refine r_geti C rfl f_X3_16 (by assumption) rfl ?_
          rw [e2]
          refine r_ic (v := nI 1) C rfl (by decide) ?_
          refine r_isub C rfl ?_
          rw [pk_sub (a := n) (b := 1) (by omega)]
          refine r_icmp_ge C 83 rfl (by decide) (fun h => ?_) (fun h => ?_)
          · have h := le_nI (by omega) (by omega) h
            exact out (by rw [hD, if_pos (Or.inl (by omega))]; rfl) (by rw [hD, if_pos (Or.inl (by omega))]; rfl)
          have h := nle_nI (by omega) (by omega) h
          refine r_iload C rfl rfl ?_
          refine r_iload C rfl rfl ?_
          refine r_ishr C rfl ?_
          rw [nx_shr (by omega) (by omega)]
          refine r_ic (v := nI 1) C rfl (by decide) ?_
          refine r_iand C rfl ?_
          have hdl := Nat.div_le_self s (2 ^ c)
          rw [pk_andN (by omega) 1 (by decide), Nat.pow_one]
          have hmod : s / 2 ^ c % 2 < 2 := Nat.mod_lt _ (by decide)
          refine r_if_ne C 83 rfl (by decide) (fun h3 => ?_) (fun h3 => ?_)
          · have h3 : s / 2 ^ c % 2 = 1 := by
              have : s / 2 ^ c % 2 ≠ 0 := fun z => h3 (by rw [z]; rfl)
              omega
            exact out (by rw [hD, if_pos (Or.inr h3)]; rfl) (by rw [hD, if_pos (Or.inr h3)]; rfl)
          have h3 : s / 2 ^ c % 2 = 0 := (nI_eq (b := 0) (by omega) (by decide)).mp h3
          have ed : s / 2 ^ c / 2 = s / 2 ^ (c + 1) := by rw [Nat.div_div_eq_div_mul, Nat.pow_succ]
          have ew : ∀ (f : Nat → Int32) (z tot : Int32), z + hD (m + 1) (fun i => f (c + i)) (s / 2 ^ c) = tot → z - f c + hD m (fun i => f (c + 1 + i)) (s / 2 ^ (c + 1)) = tot := by
            intro f z tot hz
            rw [hD, if_neg (by omega), ed] at hz
            have e1 : (fun i => f (c + (i + 1))) = fun i => f (c + 1 + i) := by funext i; rw [show c + (i + 1) = c + 1 + i by omega]
            have hz : z + (- f c + hD m (fun i => f (c + (i + 1))) (s / 2 ^ (c + 1))) = tot := hz
            rw [e1] at hz
            rw [← hz, Int32.sub_eq_add_neg, Int32.add_assoc]
          refine r_iload_n C 2 rfl rfl rfl ?_
          refine r_aload_n C 0 rfl rfl rfl rfl ?_
          refine r_getv C rfl f_X3_9 (by assumption) rfl ?_
          refine r_iload C rfl rfl ?_
          refine r_iald C rfl (by assumption) (c) rfl (by omega) (by decide) ?_
          rw [(ha1 c (by omega)).1]
          refine r_isub C rfl ?_
          refine r_istore_n C 2 rfl rfl (by exact Nat.le_of_ble_eq_true rfl) ?_
          refine r_iload_n C 3 rfl rfl rfl ?_
          refine r_aload_n C 0 rfl rfl rfl rfl ?_
          refine r_getv C rfl f_X3_13 (by assumption) rfl ?_
          refine r_iload C rfl rfl ?_
          refine r_iald C rfl (by assumption) (c) rfl (by omega) (by decide) ?_
          rw [(ha1 c (by omega)).2]
          refine r_isub C rfl ?_
          refine r_istore_n C 3 rfl rfl (by exact Nat.le_of_ble_eq_true rfl) ?_
          refine r_iinc (c := nI 1) C rfl rfl (by decide) ?_
          refine r_goto C 36 rfl (by decide) ?_
          refine r_eqL ?_ (ihm (c + 1) (x - wv c) (y - cv c) v6 (by omega) (by omega) (ew wv x _ hx) (ew cv y _ hy))
          first | rfl | (simp only [sm, add3, nI_add, Int32.add_zero, Int32.zero_add]; rfl)
      refine r_ic (v := nI 0) C rfl (by decide) ?_
      refine r_istore C rfl (by exact Nat.le_of_ble_eq_true rfl) ?_
      refine inner n 0 _ _ _ (by omega) (by omega) ?_ ?_
      · rw [Nat.pow_zero, Nat.div_one, sw]
        simp only [Nat.zero_add]
      · rw [Nat.pow_zero, Nat.div_one, sc]
        simp only [Nat.zero_add]
  refine r_aload_n C 0 rfl rfl rfl rfl ?_
  refine r_ic (v := nI 0) C rfl (by decide) ?_
  refine r_puti C rfl f_X3_20 (by assumption) rfl rfl rfl ?_
  refine r_aload_n C 0 rfl rfl rfl rfl ?_
  refine r_ic (v := nI 0) C rfl (by decide) ?_
  refine r_puti C rfl f_X3_23 (by assumption) rfl rfl rfl ?_
  refine r_aload_n C 0 rfl rfl rfl rfl ?_
  refine r_ic (v := nI 0) C rfl (by decide) ?_
  refine r_puti C rfl f_X3_26 (by assumption) rfl rfl rfl ?_
  refine r_ic (v := nI 0) C rfl (by decide) ?_
  refine r_istore_n C 2 rfl rfl (by exact Nat.le_of_ble_eq_true rfl) ?_
  refine r_ic (v := nI 0) C rfl (by decide) ?_
  refine r_istore_n C 3 rfl rfl (by exact Nat.le_of_ble_eq_true rfl) ?_
  refine r_ic (v := nI 1) C rfl (by decide) ?_
  refine r_istore C rfl (by exact Nat.le_of_ble_eq_true rfl) ?_
  refine r_eqL ?_ (big (2 ^ n - 1) 1 _ none none (by omega) (by omega) ?_ ?_ ?_)
  · rw [Nat.sub_self, hS_0, hS_0]
    rfl
  · intro c hc
    rw [up_row _ _ hc, up_row _ _ hc, up_row _ _ hc]
  · rw [up_ne _ _ (by omega), up_ne _ _ (by omega), up_ne _ _ (by omega)]
    exact h2
  · exact ⟨by rw [up_ne _ _ (by omega), up_ne _ _ (by omega), up_same]; rfl, by rw [up_ne _ _ (by omega), up_same]; rfl, up_same _ _ _ _⟩
end HOUSE
