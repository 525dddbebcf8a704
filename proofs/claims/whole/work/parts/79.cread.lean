section CREAD
variable {E : VE} {Sh : Nat → SE} {N : Nat} {G : Bool} {M M' M'' : MM} {kr tx yd n : Nat} {β : Nat → Int32} {σ σ' : RdS} {D : DR}
def rdFl (tx : Nat) : List (Option Value) := [some (.ref tx), none, none, none, none, none, none]
def KRd (Sh : Nat → SE) (N kr tx : Nat) : Prop := At Sh N kr (.inr (6, rdFl tx)) ∧ At Sh N tx (arE 1 700) ∧ tx < kr
/-- what the class's reader knows of the text -/
def CTx (M : MM) (kr tx n : Nat) (β : Nat → Int32) : Prop := n ≤ 700 ∧ M kr 1 = nI n ∧ ∀ i, i < n → byt (M tx i) ∧ M tx i &&& nI 255 = β i
def fpl (σ : RdS) : Int32 := if σ.1 = 0 then -1 else nI σ.2.1
/-- where the class reads -/
def CP (M : MM) (kr : Nat) (σ : RdS) : Prop := M kr 2 = nI σ.2.2.1 ∧ M kr 3 = nI σ.2.2.2.1 ∧ M kr 4 = nI σ.2.2.2.2 ∧ M kr 5 = nI σ.1 ∧ M kr 6 = fpl σ
theorem CTx.fj {J : Nat → Prop} (h : CTx M kr tx n β) (hF : FJ kr J M M') (hj : ¬ J 1) (hk : tx ≠ kr) : CTx M' kr tx n β := ⟨h.1, (hF.2 1 hj).trans h.2.1, fun i hi => by rw [hF.1 _ hk]; exact h.2.2 i hi⟩
abbrev JK (j : Nat) : Prop := 2 ≤ j ∧ j ≤ 4
abbrev JL (j : Nat) : Prop := 2 ≤ j ∧ j ≤ 6
theorem c_isBetween (s lo hi : Int32) : Con E mX6_isBetween 1 0 0 [.int s, .int lo, .int hi] Sh N G M (P1 (some (.int (bI (decide (lo ≤ s ∧ s ≤ hi))))) Sh N M) nox := by
  refine Con.ofQ (by decide +kernel) (by simp [Value.category]) (Nat.le_of_ble_eq_true rfl) (fun k C0 Q hQ => ?_)
  have C : CK k E mX6_isBetween kdX6_isBetween 1 0 0 := ⟨C0, kdX6_isBetween_ok⟩
  have no : ¬ (lo ≤ s ∧ s ≤ hi) → PT k E Q 0 0 Sh N G M 14 [some (.int s), some (.int lo), some (.int hi)] [] := by
    intro h
    refine r_ic (v := nI 0) C rfl (by decide) ?_
    exact q_iret C hQ rfl rfl rfl ⟨by rw [decide_eq_false h]; rfl, rfl, rfl, rfl⟩
  refine r_iload_n C 0 rfl rfl rfl ?_
  refine r_iload_n C 1 rfl rfl rfl ?_
  refine r_icmp_lt C 14 rfl (by decide) (fun h => no (fun q => absurd q.1 (Int32.not_le.mpr h))) (fun h => ?_)
  refine r_iload_n C 0 rfl rfl rfl ?_
  refine r_iload_n C 2 rfl rfl rfl ?_
  refine r_icmp_gt C 14 rfl (by decide) (fun h2 => no (fun q => absurd q.2 (Int32.not_le.mpr h2))) (fun h2 => ?_)
  refine r_ic (v := nI 1) C rfl (by decide) ?_
  refine r_goto C 15 rfl (by decide) ?_
  exact q_iret C hQ rfl rfl rfl ⟨by rw [decide_eq_true ⟨Int32.not_lt.mp h, Int32.not_lt.mp h2⟩]; rfl, rfl, rfl, rfl⟩
theorem d_skipRow (hK : KRd Sh N kr tx) (hT : CTx M kr tx n β) {s : Nat} (hs : s ≤ n) (h3 : M kr 3 = nI s) (h4 : M kr 4 = nI s) (f : Int32 → Bool) (lo hi : Int32) (hf : ∀ x, byt x → decide (lo ≤ x ∧ x ≤ hi) = f (x &&& nI 255)) : Con E mX6_skipRow 2 0 0 [.ref kr, .int lo, .int hi] Sh N G M (PR Sh N (fun v M' => v = none ∧ FJ kr (fun j => j = 4) M M' ∧ M' kr 4 = nI (run f β n s))) nox := by
  obtain ⟨k0, k1, k2⟩ := hK
  have hn := hT.1
  refine Con.ofQ (by decide +kernel) (by simp [Value.category]) (Nat.le_of_ble_eq_true rfl) (fun k C0 Q hQ => ?_)
  have C : CK k E mX6_skipRow kdX6_skipRow 2 0 0 := ⟨C0, kdX6_skipRow_ok⟩
  have loop : ∀ (m q : Nat) (M1 : MM), q + m = n → run f β n q = run f β n s → FJ kr (fun j => j = 4) M M1 → M1 kr 4 = nI q → PT k E Q 0 0 Sh N G M1 5 [some (.ref kr), some (.int lo), some (.int hi), some (.int (nI q))] [] := by
    intro m
    induction m with
    | zero =>
      intro q M1 hq hr hF g4
      have hT1 := hT.fj hF (by decide) (by omega)
      refine r_iload_n C 3 rfl rfl rfl ?_
      refine r_aload_n C 0 rfl rfl rfl rfl ?_
      refine r_geti C rfl f_X6_28 (by assumption) rfl ?_
      rw [hT1.2.1]
      refine r_icmp_ge C 40 rfl (by decide) (fun _ => ?_) (fun z => absurd ((nI_leI (by omega) (by omega)).mpr (by omega)) z)
      rw [run_stop (by omega)] at hr
      exact q_vret C hQ rfl rfl ⟨rfl, rfl, rfl, hF, by rw [← hr]; exact g4⟩
    | succ m ih =>
      intro q M1 hq hr hF g4
      have hT1 := hT.fj hF (by decide) (by omega)
      obtain ⟨b1, b2⟩ := hT1.2.2 q (by omega)
      refine r_iload_n C 3 rfl rfl rfl ?_
      refine r_aload_n C 0 rfl rfl rfl rfl ?_
      refine r_geti C rfl f_X6_28 (by assumption) rfl ?_
      rw [hT1.2.1]
      refine r_icmp_ge C 40 rfl (by decide) (fun z => absurd (le_nI (by omega) (by omega) z) (by omega)) (fun _ => ?_)
      refine r_aload_n C 0 rfl rfl rfl rfl ?_
      refine r_getv C rfl f_X6_9 (by assumption) rfl ?_
      refine r_iload_n C 3 rfl rfl rfl ?_
      refine r_bald C rfl (by assumption) (q) rfl (by omega) (by decide) ?_
      refine r_iload_n C 1 rfl rfl rfl ?_
      refine r_iload_n C 2 rfl rfl rfl ?_
      refine s3_r C rfl mfX6_isBetween lk_X6_133 (c_isBetween (M1 tx q) lo hi) ?_
      rw [hf _ b1, b2]
      refine r_if_eq C 40 rfl (by decide) (fun h => ?_) (fun h => ?_)
      · rw [run_no (bI_0 h)] at hr
        exact q_vret C hQ rfl rfl ⟨rfl, rfl, rfl, hF, by rw [← hr]; exact g4⟩
      · rw [run_yes (by omega) (bI_1 h)] at hr
        refine r_aload_n C 0 rfl rfl rfl rfl ?_
        refine r_iload_n C 3 rfl rfl rfl ?_
        refine r_ic (v := nI 1) C rfl (by decide) ?_
        refine r_iadd C rfl ?_
        rw [nI_add]
        refine r_puti C rfl f_X6_31 (by assumption) rfl rfl rfl ?_
        refine r_iinc (c := nI 1) C rfl rfl (by decide) ?_
        refine r_goto C 5 rfl (by decide) ?_
        refine r_eqL ?_ (ih (q + 1) _ (by omega) hr (hF.up rfl _) (up_same _ _ _ _))
        first | rfl | (simp only [sm, add3, nI_add, Int32.add_zero, Int32.zero_add]; rfl)
  refine r_aload_n C 0 rfl rfl rfl rfl ?_
  refine r_geti C rfl f_X6_118 (by assumption) rfl ?_
  rw [h3]
  refine r_istore_n C 3 rfl rfl (by exact Nat.le_of_ble_eq_true rfl) ?_
  exact loop (n - s) s M (by omega) rfl FJ.rfl h4
theorem le_hf : ∀ x, byt x → decide (nI 97 ≤ x ∧ x ≤ nI 122) = isLe (x &&& nI 255) := fun x hx => (byt_facts hx).2.1
theorem di_hf : ∀ x, byt x → decide (nI 48 ≤ x ∧ x ≤ nI 57) = isDi (x &&& nI 255) := fun x hx => (byt_facts hx).2.2.1
/-- the next token -/
theorem d_advance (hK : KRd Sh N kr tx) (hT : CTx M kr tx n β) (h4 : M kr 4 = nI σ.2.2.2.2) (he : σ.2.2.2.2 ≤ n) (h5 : M kr 5 = nI σ.1) (h6 : M kr 6 = fpl σ) : Con E mX6_advance 3 0 0 [.ref kr] Sh N G M (PR Sh N (fun v M' => v = none ∧ FJ kr JK M M' ∧ CP M' kr (adv β n σ))) nox := by
  obtain ⟨k0, k1, k2⟩ := id hK
  have hn := hT.1
  refine Con.ofQ (by decide +kernel) (by simp [Value.category]) (Nat.le_of_ble_eq_true rfl) (fun k C0 Q hQ => ?_)
  have C : CK k E mX6_advance kdX6_advance 3 0 0 := ⟨C0, kdX6_advance_ok⟩
  obtain ⟨s, hs⟩ : ∃ s, s = tkS β n σ.2.2.2.2 := ⟨_, rfl⟩
  have hsn : s ≤ n := by rw [hs]; exact (run_le he).2
  have fin : ∀ (M1 : MM) (v1 : Option Value), FJ kr JK M M1 → M1 kr 3 = nI s → M1 kr 4 = nI (tkE β n s) → M1 kr 2 = nI (tkK β n s) → PT k E Q 0 0 Sh N G M1 186 [some (.ref kr), v1] [] := by
    intro M1 v1 hF g3 g4 g2
    refine q_vret C hQ rfl rfl ⟨rfl, rfl, rfl, hF, ?_⟩
    unfold CP adv
    rw [← hs]
    exact ⟨g2, g3, g4, (hF.2 5 (by decide)).trans h5, (hF.2 6 (by decide)).trans h6⟩
  have mid : ∀ (M1 : MM) (v1 : Option Value), FJ kr JK M M1 → M1 kr 3 = nI s → PT k E Q 0 0 Sh N G M1 56 [some (.ref kr), v1] [] := by
    intro M1 v1 hF g3
    refine r_aload_n C 0 rfl rfl rfl rfl ?_
    refine r_aload_n C 0 rfl rfl rfl rfl ?_
    refine r_geti C rfl f_X6_118 (by assumption) rfl ?_
    rw [g3]
    refine r_puti C rfl f_X6_31 (by assumption) rfl rfl rfl ?_
    obtain ⟨M2, hM2⟩ : ∃ M2, M2 = up M1 kr 4 (nI s) := ⟨_, rfl⟩
    rw [← hM2]
    have hF2 : FJ kr JK M M2 := by rw [hM2]; exact hF.up (by decide) _
    have g3 : M2 kr 3 = nI s := by rw [hM2, up_ne _ _ (by omega)]; exact g3
    have g4 : M2 kr 4 = nI s := by rw [hM2, up_same]
    have hT2 := hT.fj hF2 (by decide) (by omega)
    refine r_aload_n C 0 rfl rfl rfl rfl ?_
    refine r_geti C rfl f_X6_118 (by assumption) rfl ?_
    rw [g3]
    refine r_aload_n C 0 rfl rfl rfl rfl ?_
    refine r_geti C rfl f_X6_28 (by assumption) rfl ?_
    rw [hT2.2.1]
    refine r_icmp_lt C 83 rfl (by decide) (fun h => ?_) (fun h => ?_)
    rotate_left
    · have h : n ≤ s := Nat.not_lt.mp (fun z => h ((nI_ltI (by omega) (by omega)).mpr z))
      refine r_aload_n C 0 rfl rfl rfl rfl ?_
      refine r_ic (v := nI 0) C rfl (by decide) ?_
      refine r_puti C rfl f_X6_45 (by assumption) rfl rfl rfl ?_
      refine r_goto C 186 rfl (by decide) ?_
      exact fin _ _ (hF2.up (by decide) _) (by rw [up_ne _ _ (by omega)]; exact g3) (by rw [up_ne _ _ (by omega)]; unfold tkE; rw [if_pos h]; exact g4) (by rw [up_same]; unfold tkK; rw [if_pos h])
    have h := lt_nI (by omega) (by omega) h
    obtain ⟨b1, b2⟩ := hT2.2.2 s h
    refine r_aload_n C 0 rfl rfl rfl rfl ?_
    refine r_getv C rfl f_X6_9 (by assumption) rfl ?_
    refine r_aload_n C 0 rfl rfl rfl rfl ?_
    refine r_geti C rfl f_X6_118 (by assumption) rfl ?_
    rw [g3]
    refine r_bald C rfl (by assumption) (s) rfl (by omega) (by decide) ?_
    refine r_bi (v := nI 97) C rfl (by decide) ?_
    refine r_bi (v := nI 122) C rfl (by decide) ?_
    refine s3_r C rfl mfX6_isBetween lk_X6_133 (c_isBetween (M2 tx s) (nI 97) (nI 122)) ?_
    rw [le_hf _ b1, b2]
    refine r_if_eq C 118 rfl (by decide) (fun hl => ?_) (fun hl => ?_)
    rotate_left
    · have hl := bI_1 hl
      refine r_aload_n C 0 rfl rfl rfl rfl ?_
      refine r_ic (v := nI 1) C rfl (by decide) ?_
      refine r_puti C rfl f_X6_45 (by assumption) rfl rfl rfl ?_
      have hT3 : CTx (up M2 kr 2 (nI 1)) kr tx n β := hT2.fj (FJ.rfl.up (J := JK) (by decide) _) (by decide) (by omega)
      refine r_aload_n C 0 rfl rfl rfl rfl ?_
      refine r_bi (v := nI 97) C rfl (by decide) ?_
      refine r_bi (v := nI 122) C rfl (by decide) ?_
      refine v2_g C rfl mfX6_skipRow lk_X6_137 (by assumption) (d_skipRow hK hT3 hsn (by rw [up_ne _ _ (by omega)]; exact g3) (by rw [up_ne _ _ (by omega)]; exact g4) isLe (nI 97) (nI 122) le_hf) ?_
      rintro z M4 ⟨rfl, hF4, g4⟩
      refine r_goto C 186 rfl (by decide) ?_
      refine fin M4 _ ((hF2.up (by decide) _).trans (hF4.mono (fun j z => by simp only [JK]; omega))) ?_ ?_ ?_
      · rw [hF4.2 3 (by decide), up_ne _ _ (by omega)]; exact g3
      · unfold tkE; rw [if_neg (by omega), if_pos hl]; exact g4
      · rw [hF4.2 2 (by decide), up_same]; unfold tkK; rw [if_neg (by omega), if_pos hl]
    have hl := bI_0 hl
    refine r_aload_n C 0 rfl rfl rfl rfl ?_
    refine r_getv C rfl f_X6_9 (by assumption) rfl ?_
    refine r_aload_n C 0 rfl rfl rfl rfl ?_
    refine r_geti C rfl f_X6_118 (by assumption) rfl ?_
    rw [g3]
    refine r_bald C rfl (by assumption) (s) rfl (by omega) (by decide) ?_
    refine r_bi (v := nI 48) C rfl (by decide) ?_
    refine r_bi (v := nI 57) C rfl (by decide) ?_
    refine s3_r C rfl mfX6_isBetween lk_X6_133 (c_isBetween (M2 tx s) (nI 48) (nI 57)) ?_
    rw [di_hf _ b1, b2]
    refine r_if_eq C 153 rfl (by decide) (fun hd => ?_) (fun hd => ?_)
    rotate_left
    · have hd := bI_1 hd
      refine r_aload_n C 0 rfl rfl rfl rfl ?_
      refine r_ic (v := nI 2) C rfl (by decide) ?_
      refine r_puti C rfl f_X6_45 (by assumption) rfl rfl rfl ?_
      have hT3 : CTx (up M2 kr 2 (nI 2)) kr tx n β := hT2.fj (FJ.rfl.up (J := JK) (by decide) _) (by decide) (by omega)
      refine r_aload_n C 0 rfl rfl rfl rfl ?_
      refine r_bi (v := nI 48) C rfl (by decide) ?_
      refine r_bi (v := nI 57) C rfl (by decide) ?_
      refine v2_g C rfl mfX6_skipRow lk_X6_137 (by assumption) (d_skipRow hK hT3 hsn (by rw [up_ne _ _ (by omega)]; exact g3) (by rw [up_ne _ _ (by omega)]; exact g4) isDi (nI 48) (nI 57) di_hf) ?_
      rintro z M4 ⟨rfl, hF4, g4⟩
      refine r_goto C 186 rfl (by decide) ?_
      refine fin M4 _ ((hF2.up (by decide) _).trans (hF4.mono (fun j z => by simp only [JK]; omega))) ?_ ?_ ?_
      · rw [hF4.2 3 (by decide), up_ne _ _ (by omega)]; exact g3
      · unfold tkE; rw [if_neg (by omega), hl, if_neg ff_t, if_pos hd]; exact g4
      · rw [hF4.2 2 (by decide), up_same]; unfold tkK; rw [if_neg (by omega), hl, if_neg ff_t, if_pos hd]
    have hd := bI_0 hd
    have eE : tkE β n s = s + 1 := by unfold tkE; rw [if_neg (by omega), hl, if_neg ff_t, hd, if_neg ff_t]
    have eK : tkK β n s = if β s = nI 59 then 3 else 4 := by unfold tkK; rw [if_neg (by omega), hl, if_neg ff_t, hd, if_neg ff_t]
    have last : ∀ kk : Nat, kk = tkK β n s → PT k E Q 0 0 Sh N G M2 173 [some (.ref kr), v1] [.int (nI kk), .ref kr] := by
      intro kk hkk
      refine r_puti C rfl f_X6_45 (by assumption) rfl rfl rfl ?_
      refine r_aload_n C 0 rfl rfl rfl rfl ?_
      refine r_aload_n C 0 rfl rfl rfl rfl ?_
      refine r_geti C rfl f_X6_118 (by assumption) rfl ?_
      rw [up_ne _ _ (by omega), g3]
      refine r_ic (v := nI 1) C rfl (by decide) ?_
      refine r_iadd C rfl ?_
      rw [nI_add]
      refine r_puti C rfl f_X6_31 (by assumption) rfl rfl rfl ?_
      exact fin _ _ ((hF2.up (by decide) _).up (by decide) _) (by rw [up_ne _ _ (by omega), up_ne _ _ (by omega)]; exact g3) (by rw [up_same, eE]) (by rw [up_ne _ _ (by omega), up_same, hkk])
    refine r_aload_n C 0 rfl rfl rfl rfl ?_
    refine r_aload_n C 0 rfl rfl rfl rfl ?_
    refine r_getv C rfl f_X6_9 (by assumption) rfl ?_
    refine r_aload_n C 0 rfl rfl rfl rfl ?_
    refine r_geti C rfl f_X6_118 (by assumption) rfl ?_
    rw [g3]
    refine r_bald C rfl (by assumption) (s) rfl (by omega) (by decide) ?_
    refine r_bi (v := nI 59) C rfl (by decide) ?_
    refine r_icmp_ne C 172 rfl (by decide) (fun h => ?_) (fun h => ?_)
    · refine r_ic (v := nI 4) C rfl (by decide) ?_
      exact last 4 (by rw [eK, if_neg (fun q => h ((byt_eq b1 (c := 59) (by decide)).mpr (b2.trans q)))])
    · refine r_ic (v := nI 3) C rfl (by decide) ?_
      refine r_goto C 173 rfl (by decide) ?_
      exact last 3 (by rw [eK, if_pos (b2.symm.trans ((byt_eq b1 (c := 59) (by decide)).mp h))])
  have loop : ∀ (m q : Nat) (M1 : MM), q + m = n → run isSp β n q = s → FJ kr JK M M1 → M1 kr 3 = nI q → PT k E Q 0 0 Sh N G M1 13 [some (.ref kr), some (.int (nI q))] [] := by
    intro m
    induction m with
    | zero =>
      intro q M1 hq hr hF g3
      have hT1 := hT.fj hF (by decide) (by omega)
      refine r_iload_n C 1 rfl rfl rfl ?_
      refine r_aload_n C 0 rfl rfl rfl rfl ?_
      refine r_geti C rfl f_X6_28 (by assumption) rfl ?_
      rw [hT1.2.1]
      refine r_icmp_ge C 56 rfl (by decide) (fun _ => ?_) (fun z => absurd ((nI_leI (by omega) (by omega)).mpr (by omega)) z)
      rw [run_stop (by omega)] at hr
      exact mid M1 _ hF (by rw [← hr]; exact g3)
    | succ m ih =>
      intro q M1 hq hr hF g3
      have hT1 := hT.fj hF (by decide) (by omega)
      obtain ⟨b1, b2⟩ := hT1.2.2 q (by omega)
      have go : isSp (β q) = true → PT k E Q 0 0 Sh N G M1 43 [some (.ref kr), some (.int (nI q))] [] := by
        intro h
        rw [run_yes (by omega) h] at hr
        refine r_aload_n C 0 rfl rfl rfl rfl ?_
        refine r_iload_n C 1 rfl rfl rfl ?_
        refine r_ic (v := nI 1) C rfl (by decide) ?_
        refine r_iadd C rfl ?_
        rw [nI_add]
        refine r_puti C rfl f_X6_118 (by assumption) rfl rfl rfl ?_
        refine r_iinc (c := nI 1) C rfl rfl (by decide) ?_
        refine r_goto C 13 rfl (by decide) ?_
        refine r_eqL ?_ (ih (q + 1) _ (by omega) hr (hF.up (by decide) _) (up_same _ _ _ _))
        first | rfl | (simp only [sm, add3, nI_add, Int32.add_zero, Int32.zero_add]; rfl)
      refine r_iload_n C 1 rfl rfl rfl ?_
      refine r_aload_n C 0 rfl rfl rfl rfl ?_
      refine r_geti C rfl f_X6_28 (by assumption) rfl ?_
      rw [hT1.2.1]
      refine r_icmp_ge C 56 rfl (by decide) (fun z => absurd (le_nI (by omega) (by omega) z) (by omega)) (fun _ => ?_)
      refine r_aload_n C 0 rfl rfl rfl rfl ?_
      refine r_getv C rfl f_X6_9 (by assumption) rfl ?_
      refine r_iload_n C 1 rfl rfl rfl ?_
      refine r_bald C rfl (by assumption) (q) rfl (by omega) (by decide) ?_
      refine r_bi (v := nI 32) C rfl (by decide) ?_
      refine r_icmp_eq C 43 rfl (by decide) (fun h => go (decide_eq_true (Or.inl (b2.symm.trans ((byt_eq b1 (c := 32) (by decide)).mp h))))) (fun h1 => ?_)
      refine r_aload_n C 0 rfl rfl rfl rfl ?_
      refine r_getv C rfl f_X6_9 (by assumption) rfl ?_
      refine r_iload_n C 1 rfl rfl rfl ?_
      refine r_bald C rfl (by assumption) (q) rfl (by omega) (by decide) ?_
      refine r_bi (v := nI 10) C rfl (by decide) ?_
      refine r_icmp_ne C 56 rfl (by decide) (fun h2 => ?_) (fun h => go (decide_eq_true (Or.inr (b2.symm.trans ((byt_eq b1 (c := 10) (by decide)).mp h)))))
      rw [run_no (decide_eq_false (fun z => z.elim (fun w => h1 ((byt_eq b1 (c := 32) (by decide)).mpr (b2.trans w))) (fun w => h2 ((byt_eq b1 (c := 10) (by decide)).mpr (b2.trans w)))))] at hr
      exact mid M1 _ hF (by rw [← hr]; exact g3)
  refine r_aload_n C 0 rfl rfl rfl rfl ?_
  refine r_aload_n C 0 rfl rfl rfl rfl ?_
  refine r_geti C rfl f_X6_31 (by assumption) rfl ?_
  rw [h4]
  refine r_puti C rfl f_X6_118 (by assumption) rfl rfl rfl ?_
  refine r_aload_n C 0 rfl rfl rfl rfl ?_
  refine r_geti C rfl f_X6_31 (by assumption) rfl ?_
  rw [up_ne _ _ (by omega), h4]
  refine r_istore_n C 1 rfl rfl (by exact Nat.le_of_ble_eq_true rfl) ?_
  exact loop (n - σ.2.2.2.2) σ.2.2.2.2 _ (by omega) hs.symm (FJ.rfl.up (by decide) _) (up_same _ _ _ _)
theorem d_adv (hK : KRd Sh N kr tx) (hT : CTx M kr tx n β) (hP : CP M kr σ) (hv : PV β n σ) : Con E mX6_advance 3 0 0 [.ref kr] Sh N G M (PR Sh N (fun v M' => v = none ∧ FJ kr JK M M' ∧ CP M' kr (adv β n σ))) nox := d_advance hK hT hP.2.2.1 hv.e.2 hP.2.2.2.1 hP.2.2.2.2
theorem d_refuse (hK : KRd Sh N kr tx) (hP : CP M kr σ) {x : Int32} (q : Nat) (hx : x = nI q) (hq0 : q ≠ 0) (hb : σ.1 < 100) : Con E mX6_refuse 1 0 0 [.ref kr, .int x] Sh N G M (PR Sh N (fun v M' => v = none ∧ FJ kr (fun j => j = 5 ∨ j = 6) M M' ∧ CP M' kr (refu q σ))) nox := by
  subst hx
  obtain ⟨k0, k1, k2⟩ := id hK
  obtain ⟨h2, h3, h4, h5, h6⟩ := id hP
  refine Con.ofQ (by decide +kernel) (by simp [Value.category]) (Nat.le_of_ble_eq_true rfl) (fun k C0 Q hQ => ?_)
  have C : CK k E mX6_refuse kdX6_refuse 1 0 0 := ⟨C0, kdX6_refuse_ok⟩
  refine r_aload_n C 0 rfl rfl rfl rfl ?_
  refine r_geti C rfl f_X6_34 (by assumption) rfl ?_
  rw [h5]
  refine r_if_ne C 20 rfl (by decide) (fun h => ?_) (fun h => ?_)
  · have h : σ.1 ≠ 0 := fun z => h (by rw [z]; rfl)
    have e : refu q σ = σ := by unfold refu; rw [if_neg h]
    exact q_vret C hQ rfl rfl ⟨rfl, rfl, rfl, FJ.rfl, by rw [e]; exact hP⟩
  · have h : σ.1 = 0 := (nI_eq (b := 0) (by omega) (by omega)).mp h
    have e : refu q σ = (q, σ.2.2.2.1, σ.2.2) := by unfold refu; rw [if_pos h]
    refine r_aload_n C 0 rfl rfl rfl rfl ?_
    refine r_iload_n C 1 rfl rfl rfl ?_
    refine r_puti C rfl f_X6_34 (by assumption) rfl rfl rfl ?_
    refine r_aload_n C 0 rfl rfl rfl rfl ?_
    refine r_aload_n C 0 rfl rfl rfl rfl ?_
    refine r_geti C rfl f_X6_118 (by assumption) rfl ?_
    rw [up_ne _ _ (by omega), h3]
    refine r_puti C rfl f_X6_15 (by assumption) rfl rfl rfl ?_
    refine q_vret C hQ rfl rfl ⟨rfl, rfl, rfl, (FJ.rfl.up (Or.inl rfl) _).up (Or.inr rfl) _, ?_⟩
    rw [e]
    refine ⟨?_, ?_, ?_, ?_, ?_⟩
    · rw [up_ne _ _ (by omega), up_ne _ _ (by omega)]; exact h2
    · rw [up_ne _ _ (by omega), up_ne _ _ (by omega)]; exact h3
    · rw [up_ne _ _ (by omega), up_ne _ _ (by omega)]; exact h4
    · rw [up_ne _ _ (by omega), up_same]
    · rw [up_same]; unfold fpl; rw [if_neg hq0]
theorem d_number (hK : KRd Sh N kr tx) (hT : CTx M kr tx n β) (hP : CP M kr σ) (hv : PV β n σ) (hk2 : σ.2.2.1 = 2) : Con E mX6_numberAtHand 1 0 0 [.ref kr] Sh N G M (P1 (some (.int (if 4 < σ.2.2.2.2 - σ.2.2.2.1 then -1 else nI (tokN β σ)))) Sh N M) nox := by
  obtain ⟨k0, k1, k2⟩ := id hK
  have hn := hT.1
  have he := hv.e
  have hdi := hv.di hk2
  obtain ⟨h2, h3, h4, h5, h6⟩ := id hP
  refine Con.ofQ (by decide +kernel) (by simp [Value.category]) (Nat.le_of_ble_eq_true rfl) (fun k C0 Q hQ => ?_)
  have C : CK k E mX6_numberAtHand kdX6_numberAtHand 1 0 0 := ⟨C0, kdX6_numberAtHand_ok⟩
  refine r_aload_n C 0 rfl rfl rfl rfl ?_
  refine r_geti C rfl f_X6_31 (by assumption) rfl ?_
  rw [h4]
  refine r_aload_n C 0 rfl rfl rfl rfl ?_
  refine r_geti C rfl f_X6_118 (by assumption) rfl ?_
  rw [h3]
  refine r_isub C rfl ?_
  rw [pk_sub (by omega)]
  refine r_ic (v := nI 4) C rfl (by decide) ?_
  refine r_icmp_le C 15 rfl (by decide) (fun h => ?_) (fun h => ?_)
  rotate_left
  · have h := nle_nI (by omega) (by omega) h
    refine r_ic (v := (-1)) C rfl (by decide) ?_
    exact q_iret C hQ rfl rfl rfl ⟨by rw [if_pos h], rfl, rfl, rfl⟩
  have h := le_nI (by omega) (by omega) h
  have loop : ∀ (m i : Nat), i + m = σ.2.2.2.2 - σ.2.2.2.1 → PT k E Q 0 0 Sh N G M 22 [some (.ref kr), some (.int (nI (nm β σ.2.2.2.1 i))), some (.int (nI (σ.2.2.2.1 + i)))] [] := by
    intro m
    induction m with
    | zero =>
      intro i hi
      have e : i = σ.2.2.2.2 - σ.2.2.2.1 := by omega
      refine r_iload_n C 2 rfl rfl rfl ?_
      refine r_aload_n C 0 rfl rfl rfl rfl ?_
      refine r_geti C rfl f_X6_31 (by assumption) rfl ?_
      rw [h4]
      refine r_icmp_ge C 59 rfl (by decide) (fun _ => ?_) (fun z => absurd ((nI_leI (by omega) (by omega)).mpr (by omega)) z)
      refine r_iload_n C 1 rfl rfl rfl ?_
      exact q_iret C hQ rfl rfl rfl ⟨by rw [if_neg (by omega), e]; rfl, rfl, rfl, rfl⟩
    | succ m ih =>
      intro i hi
      have hlt := nm_lt (β := β) σ.2.2.2.1 i (fun j hj => hdi j (by omega))
      have h10 : 10 ^ i ≤ 10 ^ 4 := Nat.pow_le_pow_right (by decide) (by omega)
      have hd := isDi_dg (hdi i (by omega))
      obtain ⟨b1, b2⟩ := hT.2.2 (σ.2.2.2.1 + i) (by omega)
      have bx : M tx (σ.2.2.2.1 + i) = nI (48 + dg (β (σ.2.2.2.1 + i))) := (byt_eq b1 (by omega)).mpr (b2.trans hd.1)
      refine r_iload_n C 2 rfl rfl rfl ?_
      refine r_aload_n C 0 rfl rfl rfl rfl ?_
      refine r_geti C rfl f_X6_31 (by assumption) rfl ?_
      rw [h4]
      refine r_icmp_ge C 59 rfl (by decide) (fun z => absurd (le_nI (by omega) (by omega) z) (by omega)) (fun _ => ?_)
      refine r_iload_n C 2 rfl rfl rfl ?_
      refine r_aload_n C 0 rfl rfl rfl rfl ?_
      refine r_geti C rfl f_X6_28 (by assumption) rfl ?_
      rw [hT.2.1]
      refine r_icmp_ge C 59 rfl (by decide) (fun z => absurd (le_nI (by omega) (by omega) z) (by omega)) (fun _ => ?_)
      refine r_iload_n C 1 rfl rfl rfl ?_
      refine r_bi (v := nI 10) C rfl (by decide) ?_
      refine r_imul C rfl ?_
      rw [pk_mul]
      refine r_aload_n C 0 rfl rfl rfl rfl ?_
      refine r_getv C rfl f_X6_9 (by assumption) rfl ?_
      refine r_iload_n C 2 rfl rfl rfl ?_
      refine r_bald C rfl (by assumption) (σ.2.2.2.1 + i) rfl (by omega) (by decide) ?_
      rw [bx]
      refine r_bi (v := nI 48) C rfl (by decide) ?_
      refine r_isub C rfl ?_
      rw [pk_sub (by omega), show 48 + dg (β (σ.2.2.2.1 + i)) - 48 = dg (β (σ.2.2.2.1 + i)) by omega]
      refine r_iadd C rfl ?_
      rw [nI_add]
      refine r_istore_n C 1 rfl rfl (by exact Nat.le_of_ble_eq_true rfl) ?_
      refine r_iinc (c := nI 1) C rfl rfl (by decide) ?_
      refine r_goto C 22 rfl (by decide) ?_
      refine r_eqL ?_ (ih (i + 1) (by omega))
      rw [nm, show nm β σ.2.2.2.1 i * 10 + dg (β (σ.2.2.2.1 + i)) = 10 * nm β σ.2.2.2.1 i + dg (β (σ.2.2.2.1 + i)) by omega]
      first | rfl | (simp only [sm, add3, nI_add, Int32.add_zero, Int32.zero_add]; rfl)
  refine r_ic (v := nI 0) C rfl (by decide) ?_
  refine r_istore_n C 1 rfl rfl (by exact Nat.le_of_ble_eq_true rfl) ?_
  refine r_aload_n C 0 rfl rfl rfl rfl ?_
  refine r_geti C rfl f_X6_118 (by assumption) rfl ?_
  rw [h3]
  refine r_istore_n C 2 rfl rfl (by exact Nat.le_of_ble_eq_true rfl) ?_
  exact loop (σ.2.2.2.2 - σ.2.2.2.1) 0 (by omega)
theorem d_takeNumber (hK : KRd Sh N kr tx) (hT : CTx M kr tx n β) (hP : CP M kr σ) (hv : PV β n σ) (hb : σ.1 < 100) {x y : Int32} (lo hi : Nat) (hx : x = nI lo) (hy : y = nI hi) (hl : lo < 1000) (hh : hi < 1000) : Con E mX6_takeNumber 4 0 0 [.ref kr, .int x, .int y] Sh N G M (PR Sh N (fun v M' => v = some (.int (nI (takeN β n lo hi σ).1)) ∧ FJ kr JL M M' ∧ CP M' kr (takeN β n lo hi σ).2)) nox := by
  subst hx; subst hy
  obtain ⟨k0, k1, k2⟩ := id hK
  have hk := hv.k
  have he := hv.e
  have hn := hT.1
  obtain ⟨h2, h3, h4, h5, h6⟩ := id hP
  refine Con.ofQ (by decide +kernel) (by simp [Value.category]) (Nat.le_of_ble_eq_true rfl) (fun k C0 Q hQ => ?_)
  have C : CK k E mX6_takeNumber kdX6_takeNumber 4 0 0 := ⟨C0, kdX6_takeNumber_ok⟩
  refine r_aload_n C 0 rfl rfl rfl rfl ?_
  refine r_geti C rfl f_X6_34 (by assumption) rfl ?_
  rw [h5]
  refine r_if_eq C 9 rfl (by decide) (fun hb0 => ?_) (fun h => ?_)
  rotate_left
  · have h : σ.1 ≠ 0 := fun z => h (by rw [z]; rfl)
    have e : takeN β n lo hi σ = (lo, σ) := by unfold takeN; rw [if_pos h]
    refine r_iload_n C 1 rfl rfl rfl ?_
    exact q_iret C hQ rfl rfl rfl ⟨rfl, rfl, by rw [e], FJ.rfl, by rw [e]; exact hP⟩
  have hb0 : σ.1 = 0 := (nI_eq (b := 0) (by omega) (by omega)).mp hb0
  refine r_aload_n C 0 rfl rfl rfl rfl ?_
  refine r_geti C rfl f_X6_45 (by assumption) rfl ?_
  refine r_ic (v := nI 2) C rfl (by decide) ?_
  rw [h2]
  refine r_icmp_eq C 24 rfl (by decide) (fun hk2 => ?_) (fun h => ?_)
  rotate_left
  · have h : σ.2.2.1 ≠ 2 := fun z => h (by rw [z])
    have e : takeN β n lo hi σ = (lo, refu 1 σ) := by unfold takeN; rw [if_neg (fun z => z hb0), if_pos h]
    refine r_aload_n C 0 rfl rfl rfl rfl ?_
    refine r_ic (v := nI 1) C rfl (by decide) ?_
    refine v1_g C rfl mfX6_refuse lk_X6_71 (by assumption) (d_refuse hK hP 1 rfl (by decide) hb) ?_
    rintro z M1 ⟨rfl, hF, hP1⟩
    refine r_iload_n C 1 rfl rfl rfl ?_
    exact q_iret C hQ rfl rfl rfl ⟨rfl, rfl, by rw [e], hF.mono (fun j z => by simp only [JL]; omega), by rw [e]; exact hP1⟩
  have hk2 : σ.2.2.1 = 2 := (nI_eq (b := 2) (by omega) (by omega)).mp hk2
  have over : ∀ v3 : Option Value, (4 < σ.2.2.2.2 - σ.2.2.2.1 ∨ tokN β σ < lo ∨ hi < tokN β σ) → PT k E Q 0 0 Sh N G M 39 [some (.ref kr), some (.int (nI lo)), some (.int (nI hi)), v3] [] := by
    intro v3 h
    have e : takeN β n lo hi σ = (lo, refu 2 σ) := by unfold takeN; rw [if_neg (fun z => z hb0), if_neg (fun z => z hk2), if_pos h]
    refine r_aload_n C 0 rfl rfl rfl rfl ?_
    refine r_ic (v := nI 2) C rfl (by decide) ?_
    refine v1_g C rfl mfX6_refuse lk_X6_71 (by assumption) (d_refuse hK hP 2 rfl (by decide) hb) ?_
    rintro z M1 ⟨rfl, hF, hP1⟩
    refine r_iload_n C 1 rfl rfl rfl ?_
    exact q_iret C hQ rfl rfl rfl ⟨rfl, rfl, by rw [e], hF.mono (fun j z => by simp only [JL]; omega), by rw [e]; exact hP1⟩
  refine r_aload_n C 0 rfl rfl rfl rfl ?_
  refine v0_r C rfl mfX6_numberAtHand lk_X6_121 (by assumption) (d_number hK hT hP hv hk2) ?_
  by_cases hl4 : 4 < σ.2.2.2.2 - σ.2.2.2.1
  · rw [if_pos hl4]
    refine r_istore_n C 3 rfl rfl (by exact Nat.le_of_ble_eq_true rfl) ?_
    refine r_iload_n C 3 rfl rfl rfl ?_
    refine r_iload_n C 1 rfl rfl rfl ?_
    refine r_icmp_lt C 39 rfl (by decide) (fun _ => over _ (Or.inl hl4)) (fun z => absurd (Int32.lt_iff_toInt_lt.mpr (by rw [nI_toInt (by omega)]; show (-1 : Int) < _; omega)) z)
  rw [if_neg hl4]
  have hlt := nm_lt (β := β) σ.2.2.2.1 _ (hv.di hk2)
  have hlt : tokN β σ < 10000 := by
    have h9 : 10 ^ (σ.2.2.2.2 - σ.2.2.2.1) ≤ 10 ^ 4 := Nat.pow_le_pow_right (by decide) (by omega)
    unfold tokN
    omega
  refine r_istore_n C 3 rfl rfl (by exact Nat.le_of_ble_eq_true rfl) ?_
  refine r_iload_n C 3 rfl rfl rfl ?_
  refine r_iload_n C 1 rfl rfl rfl ?_
  refine r_icmp_lt C 39 rfl (by decide) (fun h => over _ (Or.inr (Or.inl (lt_nI (by omega) (by omega) h)))) (fun hlo => ?_)
  have hlo : lo ≤ tokN β σ := Nat.not_lt.mp (fun z => hlo ((nI_ltI (by omega) (by omega)).mpr z))
  refine r_iload_n C 3 rfl rfl rfl ?_
  refine r_iload_n C 2 rfl rfl rfl ?_
  refine r_icmp_le C 46 rfl (by decide) (fun hhi => ?_) (fun h => ?_)
  rotate_left
  · exact over _ (Or.inr (Or.inr (nle_nI (by omega) (by omega) h)))
  have hhi : tokN β σ ≤ hi := le_nI (by omega) (by omega) hhi
  have e : takeN β n lo hi σ = (tokN β σ, adv β n σ) := by unfold takeN; rw [if_neg (fun z => z hb0), if_neg (fun z => z hk2), if_neg (by omega)]
  refine r_aload_n C 0 rfl rfl rfl rfl ?_
  refine v0_g C rfl mfX6_advance lk_X6_42 (by assumption) (d_adv hK hT hP hv) ?_
  rintro z M1 ⟨rfl, hF, hP1⟩
  refine r_iload_n C 3 rfl rfl rfl ?_
  exact q_iret C hQ rfl rfl rfl ⟨rfl, rfl, by rw [e], hF.mono (fun j z => by simp only [JL]; simp only [JK] at z; omega), by rw [e]; exact hP1⟩
theorem d_atWord (hK : KRd Sh N kr tx) (hT : CTx M kr tx n β) (hP : CP M kr σ) (hv : PV β n σ) {i : Nat} (hi : i < 18) : Con E mX6_atWord 5 0 0 [.ref kr, .retAddr i] Sh N G M (P1 (some (.int (bI (wd (wordB i) β σ)))) Sh N M) nox := by
  obtain ⟨k0, k1, k2⟩ := id hK
  have hn := hT.1
  have hk := hv.k
  have he := hv.e
  have hw7 := wordB_s i hi
  obtain ⟨h2, h3, h4, h5, h6⟩ := id hP
  refine Con.ofQ (by decide +kernel) (by simp [Value.category]) (Nat.le_of_ble_eq_true rfl) (fun k C0 Q hQ => ?_)
  have C : CK k E mX6_atWord kdX6_atWord 5 0 0 := ⟨C0, kdX6_atWord_ok⟩
  have no : wd (wordB i) β σ = false → PT k E Q 0 0 Sh N G M 24 [some (.ref kr), some (.retAddr i), none] [] := by
    intro h
    refine r_ic (v := nI 0) C rfl (by decide) ?_
    exact q_iret C hQ rfl rfl rfl ⟨by rw [h]; rfl, rfl, rfl, rfl⟩
  refine r_aload_n C 0 rfl rfl rfl rfl ?_
  refine r_geti C rfl f_X6_45 (by assumption) rfl ?_
  refine r_ic (v := nI 1) C rfl (by decide) ?_
  rw [h2]
  refine r_icmp_ne C 24 rfl (by decide) (fun h => no ?_) (fun hk1 => ?_)
  · unfold wd
    rw [decide_eq_false (p := σ.2.2.1 = 1) (fun z => h (by rw [z])), Bool.false_and, Bool.false_and]
  have hk1 : σ.2.2.1 = 1 := (nI_eq (b := 1) (by omega) (by omega)).mp hk1
  refine r_aload_n C 0 rfl rfl rfl rfl ?_
  refine r_geti C rfl f_X6_31 (by assumption) rfl ?_
  rw [h4]
  refine r_aload_n C 0 rfl rfl rfl rfl ?_
  refine r_geti C rfl f_X6_118 (by assumption) rfl ?_
  rw [h3]
  refine r_isub C rfl ?_
  rw [pk_sub (by omega)]
  refine r_aload_n C 1 rfl rfl rfl rfl ?_
  refine k0_r C rfl mfS_len lk_X6_125 hi rfl (c_S_len hi) ?_
  refine r_icmp_eq C 26 rfl (by decide) (fun hl => ?_) (fun h => ?_)
  rotate_left
  · refine no ?_
    unfold wd
    rw [decide_eq_false (p := σ.2.2.2.2 - σ.2.2.2.1 = (wordB i).length) (fun z => h (by rw [z])), Bool.and_false, Bool.false_and]
  have hl : σ.2.2.2.2 - σ.2.2.2.1 = (wordB i).length := (nI_eq (by omega) (by omega)).mp hl
  have ew : wd (wordB i) β σ = allB (fun j => decide (β (σ.2.2.2.1 + j) = nI ((wordB i).getD j 0))) (wordB i).length := by
    unfold wd
    rw [decide_eq_true hk1, decide_eq_true hl, Bool.true_and, Bool.true_and]
  have loop : ∀ (m j : Nat), j + m = (wordB i).length → allB (fun j => decide (β (σ.2.2.2.1 + j) = nI ((wordB i).getD j 0))) j = true → PT k E Q 0 0 Sh N G M 28 [some (.ref kr), some (.retAddr i), some (.int (nI j))] [] := by
    intro m
    induction m with
    | zero =>
      intro j hj ha
      have e : j = (wordB i).length := by omega
      refine r_iload_n C 2 rfl rfl rfl ?_
      refine r_aload_n C 1 rfl rfl rfl rfl ?_
      refine k0_r C rfl mfS_len lk_X6_125 hi rfl (c_S_len hi) ?_
      refine r_icmp_ge C 76 rfl (by decide) (fun _ => ?_) (fun z => absurd ((nI_leI (by omega) (by omega)).mpr (by omega)) z)
      refine r_ic (v := nI 1) C rfl (by decide) ?_
      exact q_iret C hQ rfl rfl rfl ⟨by rw [ew, ← e, ha]; rfl, rfl, rfl, rfl⟩
    | succ m ih =>
      intro j hj ha
      obtain ⟨b1, b2⟩ := hT.2.2 (σ.2.2.2.1 + j) (by omega)
      have hc := hw7.2 j (by omega)
      refine r_iload_n C 2 rfl rfl rfl ?_
      refine r_aload_n C 1 rfl rfl rfl rfl ?_
      refine k0_r C rfl mfS_len lk_X6_125 hi rfl (c_S_len hi) ?_
      refine r_icmp_ge C 76 rfl (by decide) (fun z => absurd (le_nI (by omega) (by omega) z) (by omega)) (fun _ => ?_)
      refine r_aload_n C 0 rfl rfl rfl rfl ?_
      refine r_geti C rfl f_X6_118 (by assumption) rfl ?_
      rw [h3]
      refine r_iload_n C 2 rfl rfl rfl ?_
      refine r_iadd C rfl ?_
      rw [nI_add]
      refine r_aload_n C 0 rfl rfl rfl rfl ?_
      refine r_geti C rfl f_X6_28 (by assumption) rfl ?_
      rw [hT.2.1]
      refine r_icmp_ge C 76 rfl (by decide) (fun z => absurd (le_nI (by omega) (by omega) z) (by omega)) (fun _ => ?_)
      refine r_aload_n C 0 rfl rfl rfl rfl ?_
      refine r_getv C rfl f_X6_9 (by assumption) rfl ?_
      refine r_aload_n C 0 rfl rfl rfl rfl ?_
      refine r_geti C rfl f_X6_118 (by assumption) rfl ?_
      rw [h3]
      refine r_iload_n C 2 rfl rfl rfl ?_
      refine r_iadd C rfl ?_
      rw [nI_add]
      refine r_bald C rfl (by assumption) (σ.2.2.2.1 + j) rfl (by omega) (by decide) ?_
      refine r_aload_n C 1 rfl rfl rfl rfl ?_
      refine r_iload_n C 2 rfl rfl rfl ?_
      refine k1_r C rfl mfS_charAt lk_X6_129 hi rfl (c_S_charAt hi (by omega)) ?_
      refine r_icmp_eq C 70 rfl (by decide) (fun h => ?_) (fun h => ?_)
      · refine r_iinc (c := nI 1) C rfl rfl (by decide) ?_
        refine r_goto C 28 rfl (by decide) ?_
        refine r_eqL ?_ (ih (j + 1) (by omega) (by rw [allB, ha, decide_eq_true (b2.symm.trans ((byt_eq b1 hc).mp h))]; rfl))
        first | rfl | (simp only [sm, add3, nI_add, Int32.add_zero, Int32.zero_add]; rfl)
      · have ea : allB (fun j => decide (β (σ.2.2.2.1 + j) = nI ((wordB i).getD j 0))) (j + 1) = false := by
          rw [allB, decide_eq_false (fun z => h ((byt_eq b1 hc).mpr (b2.trans z))), Bool.and_false]
        have ef : wd (wordB i) β σ = false := by rw [ew, show (wordB i).length = j + 1 + m by omega]; exact allB_mono ea m
        refine r_ic (v := nI 0) C rfl (by decide) ?_
        exact q_iret C hQ rfl rfl rfl ⟨by rw [ef]; rfl, rfl, rfl, rfl⟩
  refine r_ic (v := nI 0) C rfl (by decide) ?_
  refine r_istore_n C 2 rfl rfl (by exact Nat.le_of_ble_eq_true rfl) ?_
  exact loop (wordB i).length 0 (by omega) rfl
theorem d_takeWord (hK : KRd Sh N kr tx) (hT : CTx M kr tx n β) (hP : CP M kr σ) (hv : PV β n σ) (hb : σ.1 < 100) {i : Nat} (hi : i < 18) : Con E mX6_takeWord 6 0 0 [.ref kr, .retAddr i] Sh N G M (PR Sh N (fun v M' => v = some (.int (bI (takeW (wordB i) β n σ).1)) ∧ FJ kr JK M M' ∧ CP M' kr (takeW (wordB i) β n σ).2)) nox := by
  obtain ⟨k0, k1, k2⟩ := id hK
  obtain ⟨h2, h3, h4, h5, h6⟩ := id hP
  refine Con.ofQ (by decide +kernel) (by simp [Value.category]) (Nat.le_of_ble_eq_true rfl) (fun k C0 Q hQ => ?_)
  have C : CK k E mX6_takeWord kdX6_takeWord 6 0 0 := ⟨C0, kdX6_takeWord_ok⟩
  have no : takeW (wordB i) β n σ = (false, σ) → PT k E Q 0 0 Sh N G M 15 [some (.ref kr), some (.retAddr i)] [] := by
    intro e
    refine r_ic (v := nI 0) C rfl (by decide) ?_
    exact q_iret C hQ rfl rfl rfl ⟨rfl, rfl, by rw [e]; rfl, FJ.rfl, by rw [e]; exact hP⟩
  refine r_aload_n C 0 rfl rfl rfl rfl ?_
  refine r_geti C rfl f_X6_34 (by assumption) rfl ?_
  rw [h5]
  refine r_if_ne C 15 rfl (by decide) (fun h => no ?_) (fun hb0 => ?_)
  · unfold takeW
    rw [if_neg]
    rintro ⟨z1, z2⟩
    exact h (by rw [z1]; rfl)
  have hb0 : σ.1 = 0 := (nI_eq (b := 0) (by omega) (by omega)).mp hb0
  refine r_aload_n C 0 rfl rfl rfl rfl ?_
  refine r_aload_n C 1 rfl rfl rfl rfl ?_
  refine v1_r C rfl mfX6_atWord lk_X6_54 (by assumption) (d_atWord hK hT hP hv hi) ?_
  refine r_if_ne C 17 rfl (by decide) (fun h => ?_) (fun h => no ?_)
  · have h := bI_1 h
    have e : takeW (wordB i) β n σ = (true, adv β n σ) := by unfold takeW; rw [if_pos ⟨hb0, h⟩]
    refine r_aload_n C 0 rfl rfl rfl rfl ?_
    refine v0_g C rfl mfX6_advance lk_X6_42 (by assumption) (d_adv hK hT hP hv) ?_
    rintro z M1 ⟨rfl, hF, hP1⟩
    refine r_ic (v := nI 1) C rfl (by decide) ?_
    exact q_iret C hQ rfl rfl rfl ⟨rfl, rfl, by rw [e]; rfl, hF, by rw [e]; exact hP1⟩
  · have h := bI_0 h
    unfold takeW
    rw [if_neg]
    rintro ⟨z1, z2⟩
    rw [h] at z2
    cases z2
theorem d_takeOption (hK : KRd Sh N kr tx) (hT : CTx M kr tx n β) (hP : CP M kr σ) (hv : PV β n σ) (hb : σ.1 < 100) {i : Nat} (hi : i < 18) {x y : Int32} (hh wo : Nat) (hx : x = nI hh) (hy : y = nI wo) (hl : hh < 1000) : Con E mX6_takeOption 7 0 0 [.ref kr, .retAddr i, .int x, .int y] Sh N G M (PR Sh N (fun v M' => v = some (.int (nI (takeO (wordB i) β n hh wo σ).1)) ∧ FJ kr JL M M' ∧ CP M' kr (takeO (wordB i) β n hh wo σ).2)) nox := by
  subst hx; subst hy
  obtain ⟨k0, k1, k2⟩ := id hK
  have h1 := takeW_rv (β := β) (wordB i) hv
  refine Con.ofQ (by decide +kernel) (by simp [Value.category]) (Nat.le_of_ble_eq_true rfl) (fun k C0 Q hQ => ?_)
  have C : CK k E mX6_takeOption kdX6_takeOption 7 0 0 := ⟨C0, kdX6_takeOption_ok⟩
  refine r_aload_n C 0 rfl rfl rfl rfl ?_
  refine r_aload_n C 1 rfl rfl rfl rfl ?_
  refine v1_g C rfl mfX6_takeWord lk_X6_103 (by assumption) (d_takeWord hK hT hP hv hb hi) ?_
  rintro z M1 ⟨rfl, hF, hP1⟩
  have hT1 := hT.fj hF (by decide) (by omega)
  refine r_if_eq C 17 rfl (by decide) (fun h => ?_) (fun h => ?_)
  · have h := bI_0 h
    have e : takeO (wordB i) β n hh wo σ = (wo, (takeW (wordB i) β n σ).2) := by unfold takeO; rw [h, if_neg ff_t]
    refine r_iload_n C 3 rfl rfl rfl ?_
    exact q_iret C hQ rfl rfl rfl ⟨rfl, rfl, by rw [e], hF.mono (fun j z => by simp only [JL]; simp only [JK] at z; omega), by rw [e]; exact hP1⟩
  · have h := bI_1 h
    have e : takeO (wordB i) β n hh wo σ = takeN β n 0 hh (takeW (wordB i) β n σ).2 := by unfold takeO; rw [h, if_pos tt_t]
    refine r_aload_n C 0 rfl rfl rfl rfl ?_
    refine r_ic (v := nI 0) C rfl (by decide) ?_
    refine r_iload_n C 2 rfl rfl rfl ?_
    refine v2_g C rfl mfX6_takeNumber lk_X6_79 (by assumption) (d_takeNumber hK hT1 hP1 h1.1 (takeW_c _ hb) 0 hh rfl rfl (by decide) hl) ?_
    rintro z M2 ⟨rfl, hF2, hP2⟩
    refine r_goto C 18 rfl (by decide) ?_
    exact q_iret C hQ rfl rfl rfl ⟨rfl, rfl, by rw [e], (hF.mono (fun j z => by simp only [JL]; simp only [JK] at z; omega)).trans hF2, by rw [e]; exact hP2⟩
end CREAD
