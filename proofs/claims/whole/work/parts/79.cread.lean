section CREAD
variable {E : VE} {Sh : Nat → SE} {N : Nat} {G : Bool} {M M' M'' : MM} {kr tx yd n : Nat} {β : Nat → Int32} {σ σ' : RdS} {D : DR}
def rdFl (tx : Nat) : List (Option Value) := [some (.ref tx), none, none, none, none, none, none]
def KRd (Sh : Nat → SE) (N kr tx : Nat) : Prop := At Sh N kr (.inr (6, rdFl tx)) ∧ At Sh N tx (arE 1 700) ∧ tx < kr
/-- what the class's reader knows of the text -/
def CTx (M : MM) (kr tx n : Nat) (β : Nat → Int32) : Prop := n ≤ 700 ∧ M kr 1 = nI n ∧ ∀ i, i < n → byt (M tx i) ∧ M tx i &&& nI 255 = β i
def fpl (σ : RdS) : Int32 := if σ.1 = 0 then -1 else nI σ.2.1
/-- where the class reads -/
def CP (M : MM) (kr : Nat) (σ : RdS) : Prop := M kr 2 = nI σ.2.2.1 ∧ M kr 3 = nI σ.2.2.2.1 ∧ M kr 4 = nI σ.2.2.2.2 ∧ M kr 5 = nI σ.1 ∧ M kr 6 = fpl σ
theorem CTx.fj {J : Nat → Prop} (h : CTx M kr tx n β) (hF : FJ kr J M M') (hj : ¬ J 1) (hk : tx ≠ kr) : CTx M' kr tx n β := ⟨h.1, (hF.2 1 hj).trans h.2.1, fun i hi => by rw [hF.1 _ hk]; exact h.2.2 i hi⟩
abbrev JK (j : Nat) : Prop := 2 ≤ j ∧ j ≤ 4
abbrev JL (j : Nat) : Prop := 2 ≤ j ∧ j ≤ 6
/-- the kind of a token that begins with a sign -/
def kndOf (c : Int32) : Nat := if isLe c = true then 1 else if isDi c = true then 2 else if c = nI 59 then 3 else 4
theorem kndOf_byt {x : Int32} (hx : byt x) : kndOf x = kndOf (x &&& nI 255) := by
  have h := byt_facts hx
  unfold kndOf
  rw [h.2.1, h.2.2.1]
  by_cases hl : isLe (x &&& nI 255) = true
  · rw [if_pos hl, if_pos hl]
  · rw [if_neg hl, if_neg hl]
    by_cases hd : isDi (x &&& nI 255) = true
    · rw [if_pos hd, if_pos hd]
    · rw [if_neg hd, if_neg hd]
      by_cases e : x = nI 59
      · rw [if_pos e, if_pos ((byt_eq hx (c := 59) (by decide)).mp e)]
      · rw [if_neg e, if_neg (fun q => e ((byt_eq hx (c := 59) (by decide)).mpr q))]
theorem kndOf_le (c : Int32) : 1 ≤ kndOf c ∧ kndOf c ≤ 4 := by
  unfold kndOf
  by_cases hl : isLe c = true
  · rw [if_pos hl]; decide
  · rw [if_neg hl]
    by_cases hd : isDi c = true
    · rw [if_pos hd]; decide
    · rw [if_neg hd]
      by_cases e : c = nI 59
      · rw [if_pos e]; decide
      · rw [if_neg e]; decide
theorem di_le {c : Int32} (hd : isDi c = true) : ¬ isLe c = true := fun hl => absurd (Int32.le_trans (of_decide_eq_true hl).1 (of_decide_eq_true hd).2) (by decide)
theorem kndOf_1 {c : Int32} : kndOf c = 1 ↔ isLe c = true := by
  by_cases hl : isLe c = true
  · exact ⟨fun _ => hl, fun _ => by unfold kndOf; rw [if_pos hl]⟩
  · refine ⟨fun h => ?_, fun h => absurd h hl⟩
    unfold kndOf at h
    rw [if_neg hl] at h
    by_cases hd : isDi c = true
    · rw [if_pos hd] at h; exact absurd h (by decide)
    · rw [if_neg hd] at h
      by_cases e : c = nI 59
      · rw [if_pos e] at h; exact absurd h (by decide)
      · rw [if_neg e] at h; exact absurd h (by decide)
theorem kndOf_2 {c : Int32} : kndOf c = 2 ↔ isDi c = true := by
  by_cases hd : isDi c = true
  · exact ⟨fun _ => hd, fun _ => by unfold kndOf; rw [if_neg (di_le hd), if_pos hd]⟩
  · refine ⟨fun h => ?_, fun h => absurd h hd⟩
    unfold kndOf at h
    by_cases hl : isLe c = true
    · rw [if_pos hl] at h; exact absurd h (by decide)
    · rw [if_neg hl, if_neg hd] at h
      by_cases e : c = nI 59
      · rw [if_pos e] at h; exact absurd h (by decide)
      · rw [if_neg e] at h; exact absurd h (by decide)
theorem c_kindOf (x : Int32) : Con E mX6_kindOf 1 0 0 [.int x] Sh N G M (P1 (some (.int (nI (kndOf x)))) Sh N M) nox := by
  refine Con.ofQ (by decide +kernel) (by simp [Value.category]) (Nat.le_of_ble_eq_true rfl) (fun k C0 Q hQ => ?_)
  have C : CK k E mX6_kindOf kdX6_kindOf 1 0 0 := ⟨C0, kdX6_kindOf_ok⟩
  have semi : ¬ isLe x = true → ¬ isDi x = true → PT k E Q 0 0 Sh N G M 28 [some (.int x)] [] := by
    intro hl hd
    refine r_iload_n C 0 rfl rfl rfl ?_
    refine r_bi (v := nI 59) C rfl (by decide) ?_
    refine r_icmp_ne C 38 rfl (by decide) (fun h => ?_) (fun h => ?_)
    · refine r_ic (v := nI 4) C rfl (by decide) ?_
      exact q_iret C hQ rfl rfl rfl ⟨by unfold kndOf; rw [if_neg hl, if_neg hd, if_neg h], rfl, rfl, rfl⟩
    · refine r_ic (v := nI 3) C rfl (by decide) ?_
      refine r_goto C 39 rfl (by decide) ?_
      exact q_iret C hQ rfl rfl rfl ⟨by unfold kndOf; rw [if_neg hl, if_neg hd, if_pos h], rfl, rfl, rfl⟩
  have dig : ¬ isLe x = true → PT k E Q 0 0 Sh N G M 14 [some (.int x)] [] := by
    intro hl
    refine r_iload_n C 0 rfl rfl rfl ?_
    refine r_bi (v := nI 48) C rfl (by decide) ?_
    refine r_icmp_lt C 28 rfl (by decide) (fun h => semi hl (fun z => absurd (of_decide_eq_true z).1 (Int32.not_le.mpr h))) (fun h => ?_)
    refine r_iload_n C 0 rfl rfl rfl ?_
    refine r_bi (v := nI 57) C rfl (by decide) ?_
    refine r_icmp_gt C 28 rfl (by decide) (fun h2 => semi hl (fun z => absurd (of_decide_eq_true z).2 (Int32.not_le.mpr h2))) (fun h2 => ?_)
    have hd : isDi x = true := decide_eq_true ⟨Int32.not_lt.mp h, Int32.not_lt.mp h2⟩
    refine r_ic (v := nI 2) C rfl (by decide) ?_
    exact q_iret C hQ rfl rfl rfl ⟨by rw [kndOf_2.mpr hd], rfl, rfl, rfl⟩
  refine r_iload_n C 0 rfl rfl rfl ?_
  refine r_bi (v := nI 97) C rfl (by decide) ?_
  refine r_icmp_lt C 14 rfl (by decide) (fun h => dig (fun z => absurd (of_decide_eq_true z).1 (Int32.not_le.mpr h))) (fun h => ?_)
  refine r_iload_n C 0 rfl rfl rfl ?_
  refine r_bi (v := nI 122) C rfl (by decide) ?_
  refine r_icmp_gt C 14 rfl (by decide) (fun h2 => dig (fun z => absurd (of_decide_eq_true z).2 (Int32.not_le.mpr h2))) (fun h2 => ?_)
  have hl : isLe x = true := decide_eq_true ⟨Int32.not_lt.mp h, Int32.not_lt.mp h2⟩
  refine r_ic (v := nI 1) C rfl (by decide) ?_
  exact q_iret C hQ rfl rfl rfl ⟨by rw [kndOf_1.mpr hl], rfl, rfl, rfl⟩
/-- the next token -/
theorem d_advance (hK : KRd Sh N kr tx) (hT : CTx M kr tx n β) (h4 : M kr 4 = nI σ.2.2.2.2) (he : σ.2.2.2.2 ≤ n) (h5 : M kr 5 = nI σ.1) (h6 : M kr 6 = fpl σ) : Con E mX6_advance 3 0 0 [.ref kr] Sh N G M (PR Sh N (fun v M' => v = none ∧ FJ kr JK M M' ∧ CP M' kr (adv β n σ))) nox := by
  obtain ⟨k0, k1, k2⟩ := id hK
  have hn := hT.1
  refine Con.ofQ (by decide +kernel) (by simp [Value.category]) (Nat.le_of_ble_eq_true rfl) (fun k C0 Q hQ => ?_)
  have C : CK k E mX6_advance kdX6_advance 3 0 0 := ⟨C0, kdX6_advance_ok⟩
  obtain ⟨s, hs⟩ : ∃ s, s = tkS β n σ.2.2.2.2 := ⟨_, rfl⟩
  have hsn : s ≤ n := by rw [hs]; exact (run_le he).2
  have fin : ∀ (M1 : MM) (v1 v2 : Option Value), FJ kr JK M M1 → M1 kr 3 = nI s → M1 kr 4 = nI (tkE β n s) → M1 kr 2 = nI (tkK β n s) → PT k E Q 0 0 Sh N G M1 183 [some (.ref kr), v1, v2] [] := by
    intro M1 v1 v2 hF g3 g4 g2
    refine q_vret C hQ rfl rfl ⟨rfl, rfl, rfl, hF, ?_⟩
    unfold CP adv
    rw [← hs]
    exact ⟨g2, g3, g4, (hF.2 5 (by decide)).trans h5, (hF.2 6 (by decide)).trans h6⟩
  have row : ∀ (f : Int32 → Bool), (∀ c, kndOf c = tkK β n s ↔ f c = true) → tkK β n s ≤ 4 → ∀ (m q : Nat) (M1 : MM), q + m = n → run f β n q = tkE β n s → FJ kr JK M M1 → M1 kr 3 = nI s → M1 kr 4 = nI q → M1 kr 2 = nI (tkK β n s) → PT k E Q 0 0 Sh N G M1 142 [some (.ref kr), some (.int (nI 1)), some (.int (nI q))] [] := by
    intro f hf hk4 m
    induction m with
    | zero =>
      intro q M1 hq hr hF g3 g4 g2
      have hT1 := hT.fj hF (by decide) (by omega)
      refine r_iload_n C 1 rfl rfl rfl ?_
      refine r_if_eq C 183 rfl (by decide) (fun z => absurd z (by decide)) (fun _ => ?_)
      refine r_iload_n C 2 rfl rfl rfl ?_
      refine r_aload_n C 0 rfl rfl rfl rfl ?_
      refine r_geti C rfl f_X6_28 (by assumption) rfl ?_
      rw [hT1.2.1]
      refine r_icmp_ge C 183 rfl (by decide) (fun _ => ?_) (fun z => absurd ((nI_leI (by omega) (by omega)).mpr (by omega)) z)
      rw [run_stop (by omega)] at hr
      exact fin M1 _ _ hF g3 (by rw [← hr]; exact g4) g2
    | succ m ih =>
      intro q M1 hq hr hF g3 g4 g2
      have hT1 := hT.fj hF (by decide) (by omega)
      obtain ⟨b1, b2⟩ := hT1.2.2 q (by omega)
      refine r_iload_n C 1 rfl rfl rfl ?_
      refine r_if_eq C 183 rfl (by decide) (fun z => absurd z (by decide)) (fun _ => ?_)
      refine r_iload_n C 2 rfl rfl rfl ?_
      refine r_aload_n C 0 rfl rfl rfl rfl ?_
      refine r_geti C rfl f_X6_28 (by assumption) rfl ?_
      rw [hT1.2.1]
      refine r_icmp_ge C 183 rfl (by decide) (fun z => absurd (le_nI (by omega) (by omega) z) (by omega)) (fun _ => ?_)
      refine r_aload_n C 0 rfl rfl rfl rfl ?_
      refine r_getv C rfl f_X6_9 (by assumption) rfl ?_
      refine r_iload_n C 2 rfl rfl rfl ?_
      refine r_bald C rfl (by assumption) (q) rfl (by omega) (by decide) ?_
      refine s1_r C rfl mfX6_kindOf lk_X6_133 (c_kindOf (M1 tx q)) ?_
      rw [kndOf_byt b1, b2]
      refine r_aload_n C 0 rfl rfl rfl rfl ?_
      refine r_geti C rfl f_X6_45 (by assumption) rfl ?_
      rw [g2]
      have hk := kndOf_le (β q)
      refine r_icmp_ne C 183 rfl (by decide) (fun h => ?_) (fun h => ?_)
      · have h0 : f (β q) = false := Bool.eq_false_iff.mpr (fun z => h (by rw [(hf _).mpr z]))
        rw [run_no h0] at hr
        exact fin M1 _ _ hF g3 (by rw [← hr]; exact g4) g2
      · have h1 : f (β q) = true := (hf _).mp ((nI_eq (by omega) (by omega)).mp h)
        rw [run_yes (by omega) h1] at hr
        refine r_aload_n C 0 rfl rfl rfl rfl ?_
        refine r_iload_n C 2 rfl rfl rfl ?_
        refine r_ic (v := nI 1) C rfl (by decide) ?_
        refine r_iadd C rfl ?_
        rw [nI_add]
        refine r_puti C rfl f_X6_31 (by assumption) rfl rfl rfl ?_
        refine r_iinc (c := nI 1) C rfl rfl (by decide) ?_
        refine r_goto C 142 rfl (by decide) ?_
        refine r_eqL ?_ (ih (q + 1) _ (by omega) hr (hF.up (by decide) _) (by rw [up_ne _ _ (by omega)]; exact g3) (up_same _ _ _ _) (by rw [up_ne _ _ (by omega)]; exact g2))
        first | rfl | (simp only [sm, add3, nI_add, Int32.add_zero, Int32.zero_add]; rfl)
  have tail : ∀ (e : Nat) (M2 : MM) (v1 v2 : Option Value), e ≤ n → tkK β n s ≤ 4 → (tkK β n s ≠ 1 → tkK β n s ≠ 2 → e = tkE β n s) → (tkK β n s = 1 → run isLe β n e = tkE β n s) → (tkK β n s = 2 → run isDi β n e = tkE β n s) → FJ kr JK M M2 → M2 kr 3 = nI s → M2 kr 2 = nI (tkK β n s) → PT k E Q 0 0 Sh N G M2 112 [some (.ref kr), v1, v2] [.int (nI e), .ref kr] := by
    intro e M2 v1 v2 hen hk4 t0 t1 t2 hF g3 g2
    refine r_puti C rfl f_X6_31 (by assumption) rfl rfl rfl ?_
    obtain ⟨M3, hM3⟩ : ∃ M3, M3 = up M2 kr 4 (nI e) := ⟨_, rfl⟩
    rw [← hM3]
    have hF3 : FJ kr JK M M3 := by rw [hM3]; exact hF.up (by decide) _
    have g3 : M3 kr 3 = nI s := by rw [hM3, up_ne _ _ (by omega)]; exact g3
    have g2 : M3 kr 2 = nI (tkK β n s) := by rw [hM3, up_ne _ _ (by omega)]; exact g2
    have g4 : M3 kr 4 = nI e := by rw [hM3, up_same]
    have yes : ∀ (f : Int32 → Bool), (∀ c, kndOf c = tkK β n s ↔ f c = true) → run f β n e = tkE β n s → PT k E Q 0 0 Sh N G M3 131 [some (.ref kr), v1, v2] [] := by
      intro f hf hr
      refine r_ic (v := nI 1) C rfl (by decide) ?_
      refine r_goto C 136 rfl (by decide) ?_
      refine r_istore_n C 1 rfl rfl (by exact Nat.le_of_ble_eq_true rfl) ?_
      refine r_aload_n C 0 rfl rfl rfl rfl ?_
      refine r_geti C rfl f_X6_31 (by assumption) rfl ?_
      rw [g4]
      refine r_istore_n C 2 rfl rfl (by exact Nat.le_of_ble_eq_true rfl) ?_
      exact row f hf hk4 (n - e) e M3 (by omega) hr hF3 g3 g4 g2
    refine r_aload_n C 0 rfl rfl rfl rfl ?_
    refine r_geti C rfl f_X6_45 (by assumption) rfl ?_
    rw [g2]
    refine r_ic (v := nI 1) C rfl (by decide) ?_
    refine r_icmp_eq C 131 rfl (by decide) (fun h => ?_) (fun h => ?_)
    · have h : tkK β n s = 1 := (nI_eq (by omega) (by omega)).mp h
      exact yes isLe (fun c => by rw [h]; exact kndOf_1) (t1 h)
    have h : tkK β n s ≠ 1 := fun z => h (by rw [z])
    refine r_aload_n C 0 rfl rfl rfl rfl ?_
    refine r_geti C rfl f_X6_45 (by assumption) rfl ?_
    rw [g2]
    refine r_ic (v := nI 2) C rfl (by decide) ?_
    refine r_icmp_ne C 135 rfl (by decide) (fun h2 => ?_) (fun h2 => ?_)
    rotate_left
    · have h2 : tkK β n s = 2 := (nI_eq (by omega) (by omega)).mp h2
      exact yes isDi (fun c => by rw [h2]; exact kndOf_2) (t2 h2)
    have h2 : tkK β n s ≠ 2 := fun z => h2 (by rw [z])
    refine r_ic (v := nI 0) C rfl (by decide) ?_
    refine r_istore_n C 1 rfl rfl (by exact Nat.le_of_ble_eq_true rfl) ?_
    refine r_aload_n C 0 rfl rfl rfl rfl ?_
    refine r_geti C rfl f_X6_31 (by assumption) rfl ?_
    rw [g4]
    refine r_istore_n C 2 rfl rfl (by exact Nat.le_of_ble_eq_true rfl) ?_
    refine r_iload_n C 1 rfl rfl rfl ?_
    refine r_if_eq C 183 rfl (by decide) (fun _ => ?_) (fun z => absurd (by decide) z)
    exact fin M3 _ _ hF3 g3 (by rw [← t0 h h2]; exact g4) g2
  have put : ∀ (M1 : MM) (v1 v2 : Option Value), tkK β n s ≤ 4 → FJ kr JK M M1 → M1 kr 3 = nI s → PT k E Q 0 0 Sh N G M1 84 [some (.ref kr), v1, v2] [.int (nI (tkK β n s)), .ref kr] := by
    intro M1 v1 v2 hk4 hF g3
    refine r_puti C rfl f_X6_45 (by assumption) rfl rfl rfl ?_
    obtain ⟨M2, hM2⟩ : ∃ M2, M2 = up M1 kr 2 (nI (tkK β n s)) := ⟨_, rfl⟩
    rw [← hM2]
    have hF2 : FJ kr JK M M2 := by rw [hM2]; exact hF.up (by decide) _
    have g3 : M2 kr 3 = nI s := by rw [hM2, up_ne _ _ (by omega)]; exact g3
    have g2 : M2 kr 2 = nI (tkK β n s) := by rw [hM2, up_same]
    have hT2 := hT.fj hF2 (by decide) (by omega)
    refine r_aload_n C 0 rfl rfl rfl rfl ?_
    refine r_aload_n C 0 rfl rfl rfl rfl ?_
    refine r_geti C rfl f_X6_118 (by assumption) rfl ?_
    rw [g3]
    refine r_aload_n C 0 rfl rfl rfl rfl ?_
    refine r_geti C rfl f_X6_28 (by assumption) rfl ?_
    rw [hT2.2.1]
    refine r_icmp_ge C 108 rfl (by decide) (fun h => ?_) (fun h => ?_)
    · have h : n ≤ s := le_nI (by omega) (by omega) h
      have eK : tkK β n s = 0 := by unfold tkK; rw [if_pos h]
      refine r_aload_n C 0 rfl rfl rfl rfl ?_
      refine r_geti C rfl f_X6_118 (by assumption) rfl ?_
      rw [g3]
      exact tail s M2 v1 v2 hsn hk4 (fun _ _ => by unfold tkE; rw [if_pos h]) (fun z => absurd (eK.symm.trans z) (by decide)) (fun z => absurd (eK.symm.trans z) (by decide)) hF2 g3 g2
    · have h : s < n := Nat.not_le.mp (fun z => h ((nI_leI (by omega) (by omega)).mpr z))
      have eK : tkK β n s = kndOf (β s) := by unfold tkK; rw [if_neg (by omega)]; rfl
      refine r_aload_n C 0 rfl rfl rfl rfl ?_
      refine r_geti C rfl f_X6_118 (by assumption) rfl ?_
      rw [g3]
      refine r_ic (v := nI 1) C rfl (by decide) ?_
      refine r_iadd C rfl ?_
      rw [nI_add]
      refine r_goto C 112 rfl (by decide) ?_
      refine tail (s + 1) M2 v1 v2 h hk4 (fun z1 z2 => ?_) (fun z => ?_) (fun z => ?_) hF2 g3 g2
      · unfold tkE
        rw [if_neg (by omega), if_neg (fun q => z1 (eK.trans (kndOf_1.mpr q))), if_neg (fun q => z2 (eK.trans (kndOf_2.mpr q)))]
      · have hl := kndOf_1.mp (eK.symm.trans z)
        unfold tkE
        rw [if_neg (by omega), if_pos hl]
        exact (run_yes h hl).symm
      · have hd := kndOf_2.mp (eK.symm.trans z)
        unfold tkE
        rw [if_neg (by omega), if_neg (di_le hd), if_pos hd]
        exact (run_yes h hd).symm
  have mid : ∀ (M1 : MM) (v1 v2 : Option Value), FJ kr JK M M1 → M1 kr 3 = nI s → PT k E Q 0 0 Sh N G M1 56 [some (.ref kr), v1, v2] [] := by
    intro M1 v1 v2 hF g3
    have hT1 := hT.fj hF (by decide) (by omega)
    refine r_aload_n C 0 rfl rfl rfl rfl ?_
    refine r_aload_n C 0 rfl rfl rfl rfl ?_
    refine r_geti C rfl f_X6_118 (by assumption) rfl ?_
    rw [g3]
    refine r_aload_n C 0 rfl rfl rfl rfl ?_
    refine r_geti C rfl f_X6_28 (by assumption) rfl ?_
    rw [hT1.2.1]
    refine r_icmp_ge C 83 rfl (by decide) (fun h => ?_) (fun h => ?_)
    · have h : n ≤ s := le_nI (by omega) (by omega) h
      have eK : tkK β n s = 0 := by unfold tkK; rw [if_pos h]
      have hp := put M1 v1 v2 (by omega) hF g3
      rw [eK] at hp
      refine r_ic (v := nI 0) C rfl (by decide) ?_
      exact hp
    · have h : s < n := Nat.not_le.mp (fun z => h ((nI_leI (by omega) (by omega)).mpr z))
      have eK : tkK β n s = kndOf (β s) := by unfold tkK; rw [if_neg (by omega)]; rfl
      obtain ⟨b1, b2⟩ := hT1.2.2 s h
      have hk := kndOf_le (β s)
      refine r_aload_n C 0 rfl rfl rfl rfl ?_
      refine r_getv C rfl f_X6_9 (by assumption) rfl ?_
      refine r_aload_n C 0 rfl rfl rfl rfl ?_
      refine r_geti C rfl f_X6_118 (by assumption) rfl ?_
      rw [g3]
      refine r_bald C rfl (by assumption) (s) rfl (by omega) (by decide) ?_
      refine s1_r C rfl mfX6_kindOf lk_X6_133 (c_kindOf (M1 tx s)) ?_
      rw [kndOf_byt b1, b2, ← eK]
      refine r_goto C 84 rfl (by decide) ?_
      exact put M1 v1 v2 (by omega) hF g3
  have loop : ∀ (m q : Nat) (M1 : MM), q + m = n → run isSp β n q = s → FJ kr JK M M1 → M1 kr 3 = nI q → PT k E Q 0 0 Sh N G M1 13 [some (.ref kr), some (.int (nI q)), none] [] := by
    intro m
    induction m with
    | zero =>
      intro q M1 hq hr hF g3
      have hT1 := hT.fj hF (by decide) (by omega)
      refine r_iload_n C 1 rfl rfl rfl ?_
      refine r_aload_n C 0 rfl rfl rfl rfl ?_
      refine r_geti C rfl f_X6_28 (by assumption) rfl ?_
      rw [hT1.2.1]
      refine r_icmp_ge C 56 rfl (by decide) (fun _ => ?_) (fun z => absurd ((nI_leI (by omega) (by omega)).mpr (by omega)) z)
      rw [run_stop (by omega)] at hr
      exact mid M1 _ _ hF (by rw [← hr]; exact g3)
    | succ m ih =>
      intro q M1 hq hr hF g3
      have hT1 := hT.fj hF (by decide) (by omega)
      obtain ⟨b1, b2⟩ := hT1.2.2 q (by omega)
      have go : isSp (β q) = true → PT k E Q 0 0 Sh N G M1 43 [some (.ref kr), some (.int (nI q)), none] [] := by
        intro h
        rw [run_yes (by omega) h] at hr
        refine r_aload_n C 0 rfl rfl rfl rfl ?_
        refine r_iload_n C 1 rfl rfl rfl ?_
        refine r_ic (v := nI 1) C rfl (by decide) ?_
        refine r_iadd C rfl ?_
        rw [nI_add]
        refine r_puti C rfl f_X6_118 (by assumption) rfl rfl rfl ?_
        refine r_iinc (c := nI 1) C rfl rfl (by decide) ?_
        refine r_goto C 13 rfl (by decide) ?_
        refine r_eqL ?_ (ih (q + 1) _ (by omega) hr (hF.up (by decide) _) (up_same _ _ _ _))
        first | rfl | (simp only [sm, add3, nI_add, Int32.add_zero, Int32.zero_add]; rfl)
      refine r_iload_n C 1 rfl rfl rfl ?_
      refine r_aload_n C 0 rfl rfl rfl rfl ?_
      refine r_geti C rfl f_X6_28 (by assumption) rfl ?_
      rw [hT1.2.1]
      refine r_icmp_ge C 56 rfl (by decide) (fun z => absurd (le_nI (by omega) (by omega) z) (by omega)) (fun _ => ?_)
      refine r_aload_n C 0 rfl rfl rfl rfl ?_
      refine r_getv C rfl f_X6_9 (by assumption) rfl ?_
      refine r_iload_n C 1 rfl rfl rfl ?_
      refine r_bald C rfl (by assumption) (q) rfl (by omega) (by decide) ?_
      refine r_bi (v := nI 32) C rfl (by decide) ?_
      refine r_icmp_eq C 43 rfl (by decide) (fun h => go (decide_eq_true (Or.inl (b2.symm.trans ((byt_eq b1 (c := 32) (by decide)).mp h))))) (fun h1 => ?_)
      refine r_aload_n C 0 rfl rfl rfl rfl ?_
      refine r_getv C rfl f_X6_9 (by assumption) rfl ?_
      refine r_iload_n C 1 rfl rfl rfl ?_
      refine r_bald C rfl (by assumption) (q) rfl (by omega) (by decide) ?_
      refine r_bi (v := nI 10) C rfl (by decide) ?_
      refine r_icmp_ne C 56 rfl (by decide) (fun h2 => ?_) (fun h => go (decide_eq_true (Or.inr (b2.symm.trans ((byt_eq b1 (c := 10) (by decide)).mp h)))))
      rw [run_no (decide_eq_false (fun z => z.elim (fun w => h1 ((byt_eq b1 (c := 32) (by decide)).mpr (b2.trans w))) (fun w => h2 ((byt_eq b1 (c := 10) (by decide)).mpr (b2.trans w)))))] at hr
      exact mid M1 _ _ hF (by rw [← hr]; exact g3)
  refine r_aload_n C 0 rfl rfl rfl rfl ?_
  refine r_aload_n C 0 rfl rfl rfl rfl ?_
  refine r_geti C rfl f_X6_31 (by assumption) rfl ?_
  rw [h4]
  refine r_puti C rfl f_X6_118 (by assumption) rfl rfl rfl ?_
  refine r_aload_n C 0 rfl rfl rfl rfl ?_
  refine r_geti C rfl f_X6_31 (by assumption) rfl ?_
  rw [up_ne _ _ (by omega), h4]
  refine r_istore_n C 1 rfl rfl (by exact Nat.le_of_ble_eq_true rfl) ?_
  exact loop (n - σ.2.2.2.2) σ.2.2.2.2 _ (by omega) hs.symm (FJ.rfl.up (by decide) _) (up_same _ _ _ _)
theorem d_adv (hK : KRd Sh N kr tx) (hT : CTx M kr tx n β) (hP : CP M kr σ) (hv : PV β n σ) : Con E mX6_advance 3 0 0 [.ref kr] Sh N G M (PR Sh N (fun v M' => v = none ∧ FJ kr JK M M' ∧ CP M' kr (adv β n σ))) nox := d_advance hK hT hP.2.2.1 hv.e.2 hP.2.2.2.1 hP.2.2.2.2
theorem d_refuse (hK : KRd Sh N kr tx) (hP : CP M kr σ) {x : Int32} (q : Nat) (hx : x = nI q) (hq0 : q ≠ 0) (hb : σ.1 < 100) : Con E mX6_refuse 1 0 0 [.ref kr, .int x] Sh N G M (PR Sh N (fun v M' => v = none ∧ FJ kr (fun j => j = 5 ∨ j = 6) M M' ∧ CP M' kr (refu q σ))) nox := by
  subst hx
  obtain ⟨k0, k1, k2⟩ := id hK
  obtain ⟨h2, h3, h4, h5, h6⟩ := id hP
  refine Con.ofQ (by decide +kernel) (by simp [Value.category]) (Nat.le_of_ble_eq_true rfl) (fun k C0 Q hQ => ?_)
  have C : CK k E mX6_refuse kdX6_refuse 1 0 0 := ⟨C0, kdX6_refuse_ok⟩
  refine r_aload_n C 0 rfl rfl rfl rfl ?_
  refine r_geti C rfl f_X6_34 (by assumption) rfl ?_
  rw [h5]
  refine r_if_ne C 20 rfl (by decide) (fun h => ?_) (fun h => ?_)
  · have h : σ.1 ≠ 0 := fun z => h (by rw [z]; rfl)
    have e : refu q σ = σ := by unfold refu; rw [if_neg h]
    exact q_vret C hQ rfl rfl ⟨rfl, rfl, rfl, FJ.rfl, by rw [e]; exact hP⟩
  · have h : σ.1 = 0 := (nI_eq (b := 0) (by omega) (by omega)).mp h
    have e : refu q σ = (q, σ.2.2.2.1, σ.2.2) := by unfold refu; rw [if_pos h]
    refine r_aload_n C 0 rfl rfl rfl rfl ?_
    refine r_iload_n C 1 rfl rfl rfl ?_
    refine r_puti C rfl f_X6_34 (by assumption) rfl rfl rfl ?_
    refine r_aload_n C 0 rfl rfl rfl rfl ?_
    refine r_aload_n C 0 rfl rfl rfl rfl ?_
    refine r_geti C rfl f_X6_118 (by assumption) rfl ?_
    rw [up_ne _ _ (by omega), h3]
    refine r_puti C rfl f_X6_15 (by assumption) rfl rfl rfl ?_
    refine q_vret C hQ rfl rfl ⟨rfl, rfl, rfl, (FJ.rfl.up (Or.inl rfl) _).up (Or.inr rfl) _, ?_⟩
    rw [e]
    refine ⟨?_, ?_, ?_, ?_, ?_⟩
    · rw [up_ne _ _ (by omega), up_ne _ _ (by omega)]; exact h2
    · rw [up_ne _ _ (by omega), up_ne _ _ (by omega)]; exact h3
    · rw [up_ne _ _ (by omega), up_ne _ _ (by omega)]; exact h4
    · rw [up_ne _ _ (by omega), up_same]
    · rw [up_same]; unfold fpl; rw [if_neg hq0]
theorem d_number (hK : KRd Sh N kr tx) (hT : CTx M kr tx n β) (hP : CP M kr σ) (hv : PV β n σ) (hk2 : σ.2.2.1 = 2) : Con E mX6_numberAtHand 1 0 0 [.ref kr] Sh N G M (P1 (some (.int (if 4 < σ.2.2.2.2 - σ.2.2.2.1 then -1 else nI (tokN β σ)))) Sh N M) nox := by
  obtain ⟨k0, k1, k2⟩ := id hK
  have hn := hT.1
  have he := hv.e
  have hdi := hv.di hk2
  obtain ⟨h2, h3, h4, h5, h6⟩ := id hP
  refine Con.ofQ (by decide +kernel) (by simp [Value.category]) (Nat.le_of_ble_eq_true rfl) (fun k C0 Q hQ => ?_)
  have C : CK k E mX6_numberAtHand kdX6_numberAtHand 1 0 0 := ⟨C0, kdX6_numberAtHand_ok⟩
  refine r_aload_n C 0 rfl rfl rfl rfl ?_
  refine r_geti C rfl f_X6_31 (by assumption) rfl ?_
  rw [h4]
  refine r_aload_n C 0 rfl rfl rfl rfl ?_
  refine r_geti C rfl f_X6_118 (by assumption) rfl ?_
  rw [h3]
  refine r_isub C rfl ?_
  rw [pk_sub (by omega)]
  refine r_ic (v := nI 4) C rfl (by decide) ?_
  refine r_icmp_le C 15 rfl (by decide) (fun h => ?_) (fun h => ?_)
  rotate_left
  · have h := nle_nI (by omega) (by omega) h
    refine r_ic (v := (-1)) C rfl (by decide) ?_
    exact q_iret C hQ rfl rfl rfl ⟨by rw [if_pos h], rfl, rfl, rfl⟩
  have h := le_nI (by omega) (by omega) h
  have loop : ∀ (m i : Nat), i + m = σ.2.2.2.2 - σ.2.2.2.1 → PT k E Q 0 0 Sh N G M 22 [some (.ref kr), some (.int (nI (nm β σ.2.2.2.1 i))), some (.int (nI (σ.2.2.2.1 + i)))] [] := by
    intro m
    induction m with
    | zero =>
      intro i hi
      have e : i = σ.2.2.2.2 - σ.2.2.2.1 := by omega
      refine r_iload_n C 2 rfl rfl rfl ?_
      refine r_aload_n C 0 rfl rfl rfl rfl ?_
      refine r_geti C rfl f_X6_31 (by assumption) rfl ?_
      rw [h4]
      refine r_icmp_ge C 59 rfl (by decide) (fun _ => ?_) (fun z => absurd ((nI_leI (by omega) (by omega)).mpr (by omega)) z)
      refine r_iload_n C 1 rfl rfl rfl ?_
      exact q_iret C hQ rfl rfl rfl ⟨by rw [if_neg (by omega), e]; rfl, rfl, rfl, rfl⟩
    | succ m ih =>
      intro i hi
      have hlt := nm_lt (β := β) σ.2.2.2.1 i (fun j hj => hdi j (by omega))
      have h10 : 10 ^ i ≤ 10 ^ 4 := Nat.pow_le_pow_right (by decide) (by omega)
      have hd := isDi_dg (hdi i (by omega))
      obtain ⟨b1, b2⟩ := hT.2.2 (σ.2.2.2.1 + i) (by omega)
      have bx : M tx (σ.2.2.2.1 + i) = nI (48 + dg (β (σ.2.2.2.1 + i))) := (byt_eq b1 (by omega)).mpr (b2.trans hd.1)
      refine r_iload_n C 2 rfl rfl rfl ?_
      refine r_aload_n C 0 rfl rfl rfl rfl ?_
      refine r_geti C rfl f_X6_31 (by assumption) rfl ?_
      rw [h4]
      refine r_icmp_ge C 59 rfl (by decide) (fun z => absurd (le_nI (by omega) (by omega) z) (by omega)) (fun _ => ?_)
      refine r_iload_n C 2 rfl rfl rfl ?_
      refine r_aload_n C 0 rfl rfl rfl rfl ?_
      refine r_geti C rfl f_X6_28 (by assumption) rfl ?_
      rw [hT.2.1]
      refine r_icmp_ge C 59 rfl (by decide) (fun z => absurd (le_nI (by omega) (by omega) z) (by omega)) (fun _ => ?_)
      refine r_iload_n C 1 rfl rfl rfl ?_
      refine r_bi (v := nI 10) C rfl (by decide) ?_
      refine r_imul C rfl ?_
      rw [pk_mul]
      refine r_aload_n C 0 rfl rfl rfl rfl ?_
      refine r_getv C rfl f_X6_9 (by assumption) rfl ?_
      refine r_iload_n C 2 rfl rfl rfl ?_
      refine r_bald C rfl (by assumption) (σ.2.2.2.1 + i) rfl (by omega) (by decide) ?_
      rw [bx]
      refine r_bi (v := nI 48) C rfl (by decide) ?_
      refine r_isub C rfl ?_
      rw [pk_sub (by omega), show 48 + dg (β (σ.2.2.2.1 + i)) - 48 = dg (β (σ.2.2.2.1 + i)) by omega]
      refine r_iadd C rfl ?_
      rw [nI_add]
      refine r_istore_n C 1 rfl rfl (by exact Nat.le_of_ble_eq_true rfl) ?_
      refine r_iinc (c := nI 1) C rfl rfl (by decide) ?_
      refine r_goto C 22 rfl (by decide) ?_
      refine r_eqL ?_ (ih (i + 1) (by omega))
      rw [nm, show nm β σ.2.2.2.1 i * 10 + dg (β (σ.2.2.2.1 + i)) = 10 * nm β σ.2.2.2.1 i + dg (β (σ.2.2.2.1 + i)) by omega]
      first | rfl | (simp only [sm, add3, nI_add, Int32.add_zero, Int32.zero_add]; rfl)
  refine r_ic (v := nI 0) C rfl (by decide) ?_
  refine r_istore_n C 1 rfl rfl (by exact Nat.le_of_ble_eq_true rfl) ?_
  refine r_aload_n C 0 rfl rfl rfl rfl ?_
  refine r_geti C rfl f_X6_118 (by assumption) rfl ?_
  rw [h3]
  refine r_istore_n C 2 rfl rfl (by exact Nat.le_of_ble_eq_true rfl) ?_
  exact loop (σ.2.2.2.2 - σ.2.2.2.1) 0 (by omega)
theorem d_takeNumber (hK : KRd Sh N kr tx) (hT : CTx M kr tx n β) (hP : CP M kr σ) (hv : PV β n σ) (hb : σ.1 < 100) {x y : Int32} (lo hi : Nat) (hx : x = nI lo) (hy : y = nI hi) (hl : lo < 1000) (hh : hi < 1000) : Con E mX6_takeNumber 4 0 0 [.ref kr, .int x, .int y] Sh N G M (PR Sh N (fun v M' => v = some (.int (nI (takeN β n lo hi σ).1)) ∧ FJ kr JL M M' ∧ CP M' kr (takeN β n lo hi σ).2)) nox := by
  subst hx; subst hy
  obtain ⟨k0, k1, k2⟩ := id hK
  have hk := hv.k
  have he := hv.e
  have hn := hT.1
  obtain ⟨h2, h3, h4, h5, h6⟩ := id hP
  refine Con.ofQ (by decide +kernel) (by simp [Value.category]) (Nat.le_of_ble_eq_true rfl) (fun k C0 Q hQ => ?_)
  have C : CK k E mX6_takeNumber kdX6_takeNumber 4 0 0 := ⟨C0, kdX6_takeNumber_ok⟩
  refine r_aload_n C 0 rfl rfl rfl rfl ?_
  refine r_geti C rfl f_X6_34 (by assumption) rfl ?_
  rw [h5]
  refine r_if_eq C 9 rfl (by decide) (fun hb0 => ?_) (fun h => ?_)
  rotate_left
  · have h : σ.1 ≠ 0 := fun z => h (by rw [z]; rfl)
    have e : takeN β n lo hi σ = (lo, σ) := by unfold takeN; rw [if_pos h]
    refine r_iload_n C 1 rfl rfl rfl ?_
    exact q_iret C hQ rfl rfl rfl ⟨rfl, rfl, by rw [e], FJ.rfl, by rw [e]; exact hP⟩
  have hb0 : σ.1 = 0 := (nI_eq (b := 0) (by omega) (by omega)).mp hb0
  refine r_aload_n C 0 rfl rfl rfl rfl ?_
  refine r_geti C rfl f_X6_45 (by assumption) rfl ?_
  refine r_ic (v := nI 2) C rfl (by decide) ?_
  rw [h2]
  refine r_icmp_eq C 24 rfl (by decide) (fun hk2 => ?_) (fun h => ?_)
  rotate_left
  · have h : σ.2.2.1 ≠ 2 := fun z => h (by rw [z])
    have e : takeN β n lo hi σ = (lo, refu 1 σ) := by unfold takeN; rw [if_neg (fun z => z hb0), if_pos h]
    refine r_aload_n C 0 rfl rfl rfl rfl ?_
    refine r_ic (v := nI 1) C rfl (by decide) ?_
    refine v1_g C rfl mfX6_refuse lk_X6_71 (by assumption) (d_refuse hK hP 1 rfl (by decide) hb) ?_
    rintro z M1 ⟨rfl, hF, hP1⟩
    refine r_iload_n C 1 rfl rfl rfl ?_
    exact q_iret C hQ rfl rfl rfl ⟨rfl, rfl, by rw [e], hF.mono (fun j z => by simp only [JL]; omega), by rw [e]; exact hP1⟩
  have hk2 : σ.2.2.1 = 2 := (nI_eq (b := 2) (by omega) (by omega)).mp hk2
  have over : ∀ v3 : Option Value, (4 < σ.2.2.2.2 - σ.2.2.2.1 ∨ tokN β σ < lo ∨ hi < tokN β σ) → PT k E Q 0 0 Sh N G M 39 [some (.ref kr), some (.int (nI lo)), some (.int (nI hi)), v3] [] := by
    intro v3 h
    have e : takeN β n lo hi σ = (lo, refu 2 σ) := by unfold takeN; rw [if_neg (fun z => z hb0), if_neg (fun z => z hk2), if_pos h]
    refine r_aload_n C 0 rfl rfl rfl rfl ?_
    refine r_ic (v := nI 2) C rfl (by decide) ?_
    refine v1_g C rfl mfX6_refuse lk_X6_71 (by assumption) (d_refuse hK hP 2 rfl (by decide) hb) ?_
    rintro z M1 ⟨rfl, hF, hP1⟩
    refine r_iload_n C 1 rfl rfl rfl ?_
    exact q_iret C hQ rfl rfl rfl ⟨rfl, rfl, by rw [e], hF.mono (fun j z => by simp only [JL]; omega), by rw [e]; exact hP1⟩
  refine r_aload_n C 0 rfl rfl rfl rfl ?_
  refine v0_r C rfl mfX6_numberAtHand lk_X6_121 (by assumption) (d_number hK hT hP hv hk2) ?_
  by_cases hl4 : 4 < σ.2.2.2.2 - σ.2.2.2.1
  · rw [if_pos hl4]
    refine r_istore_n C 3 rfl rfl (by exact Nat.le_of_ble_eq_true rfl) ?_
    refine r_iload_n C 3 rfl rfl rfl ?_
    refine r_iload_n C 1 rfl rfl rfl ?_
    refine r_icmp_lt C 39 rfl (by decide) (fun _ => over _ (Or.inl hl4)) (fun z => absurd (Int32.lt_iff_toInt_lt.mpr (by rw [nI_toInt (by omega)]; show (-1 : Int) < _; omega)) z)
  rw [if_neg hl4]
  have hlt := nm_lt (β := β) σ.2.2.2.1 _ (hv.di hk2)
  have hlt : tokN β σ < 10000 := by
    have h9 : 10 ^ (σ.2.2.2.2 - σ.2.2.2.1) ≤ 10 ^ 4 := Nat.pow_le_pow_right (by decide) (by omega)
    unfold tokN
    omega
  refine r_istore_n C 3 rfl rfl (by exact Nat.le_of_ble_eq_true rfl) ?_
  refine r_iload_n C 3 rfl rfl rfl ?_
  refine r_iload_n C 1 rfl rfl rfl ?_
  refine r_icmp_lt C 39 rfl (by decide) (fun h => over _ (Or.inr (Or.inl (lt_nI (by omega) (by omega) h)))) (fun hlo => ?_)
  have hlo : lo ≤ tokN β σ := Nat.not_lt.mp (fun z => hlo ((nI_ltI (by omega) (by omega)).mpr z))
  refine r_iload_n C 3 rfl rfl rfl ?_
  refine r_iload_n C 2 rfl rfl rfl ?_
  refine r_icmp_le C 46 rfl (by decide) (fun hhi => ?_) (fun h => ?_)
  rotate_left
  · exact over _ (Or.inr (Or.inr (nle_nI (by omega) (by omega) h)))
  have hhi : tokN β σ ≤ hi := le_nI (by omega) (by omega) hhi
  have e : takeN β n lo hi σ = (tokN β σ, adv β n σ) := by unfold takeN; rw [if_neg (fun z => z hb0), if_neg (fun z => z hk2), if_neg (by omega)]
  refine r_aload_n C 0 rfl rfl rfl rfl ?_
  refine v0_g C rfl mfX6_advance lk_X6_42 (by assumption) (d_adv hK hT hP hv) ?_
  rintro z M1 ⟨rfl, hF, hP1⟩
  refine r_iload_n C 3 rfl rfl rfl ?_
  exact q_iret C hQ rfl rfl rfl ⟨rfl, rfl, by rw [e], hF.mono (fun j z => by simp only [JL]; simp only [JK] at z; omega), by rw [e]; exact hP1⟩
theorem d_atWord (hK : KRd Sh N kr tx) (hT : CTx M kr tx n β) (hP : CP M kr σ) (hv : PV β n σ) {i : Nat} (hi : i < 18) : Con E mX6_atWord 5 0 0 [.ref kr, .retAddr i] Sh N G M (P1 (some (.int (bI (wd (wordB i) β σ)))) Sh N M) nox := by
  obtain ⟨k0, k1, k2⟩ := id hK
  have hn := hT.1
  have hk := hv.k
  have he := hv.e
  have hw7 := wordB_s i hi
  obtain ⟨h2, h3, h4, h5, h6⟩ := id hP
  refine Con.ofQ (by decide +kernel) (by simp [Value.category]) (Nat.le_of_ble_eq_true rfl) (fun k C0 Q hQ => ?_)
  have C : CK k E mX6_atWord kdX6_atWord 5 0 0 := ⟨C0, kdX6_atWord_ok⟩
  have no : wd (wordB i) β σ = false → PT k E Q 0 0 Sh N G M 24 [some (.ref kr), some (.retAddr i), none] [] := by
    intro h
    refine r_ic (v := nI 0) C rfl (by decide) ?_
    exact q_iret C hQ rfl rfl rfl ⟨by rw [h]; rfl, rfl, rfl, rfl⟩
  refine r_aload_n C 0 rfl rfl rfl rfl ?_
  refine r_geti C rfl f_X6_45 (by assumption) rfl ?_
  refine r_ic (v := nI 1) C rfl (by decide) ?_
  rw [h2]
  refine r_icmp_ne C 24 rfl (by decide) (fun h => no ?_) (fun hk1 => ?_)
  · unfold wd
    rw [decide_eq_false (p := σ.2.2.1 = 1) (fun z => h (by rw [z])), Bool.false_and, Bool.false_and]
  have hk1 : σ.2.2.1 = 1 := (nI_eq (b := 1) (by omega) (by omega)).mp hk1
  refine r_aload_n C 0 rfl rfl rfl rfl ?_
  refine r_geti C rfl f_X6_31 (by assumption) rfl ?_
  rw [h4]
  refine r_aload_n C 0 rfl rfl rfl rfl ?_
  refine r_geti C rfl f_X6_118 (by assumption) rfl ?_
  rw [h3]
  refine r_isub C rfl ?_
  rw [pk_sub (by omega)]
  refine r_aload_n C 1 rfl rfl rfl rfl ?_
  refine k0_r C rfl mfS_len lk_X6_125 hi rfl (c_S_len hi) ?_
  refine r_icmp_eq C 26 rfl (by decide) (fun hl => ?_) (fun h => ?_)
  rotate_left
  · refine no ?_
    unfold wd
    rw [decide_eq_false (p := σ.2.2.2.2 - σ.2.2.2.1 = (wordB i).length) (fun z => h (by rw [z])), Bool.and_false, Bool.false_and]
  have hl : σ.2.2.2.2 - σ.2.2.2.1 = (wordB i).length := (nI_eq (by omega) (by omega)).mp hl
  have ew : wd (wordB i) β σ = allB (fun j => decide (β (σ.2.2.2.1 + j) = nI ((wordB i).getD j 0))) (wordB i).length := by
    unfold wd
    rw [decide_eq_true hk1, decide_eq_true hl, Bool.true_and, Bool.true_and]
  have loop : ∀ (m j : Nat), j + m = (wordB i).length → allB (fun j => decide (β (σ.2.2.2.1 + j) = nI ((wordB i).getD j 0))) j = true → PT k E Q 0 0 Sh N G M 28 [some (.ref kr), some (.retAddr i), some (.int (nI j))] [] := by
    intro m
    induction m with
    | zero =>
      intro j hj ha
      have e : j = (wordB i).length := by omega
      refine r_iload_n C 2 rfl rfl rfl ?_
      refine r_aload_n C 1 rfl rfl rfl rfl ?_
      refine k0_r C rfl mfS_len lk_X6_125 hi rfl (c_S_len hi) ?_
      refine r_icmp_ge C 76 rfl (by decide) (fun _ => ?_) (fun z => absurd ((nI_leI (by omega) (by omega)).mpr (by omega)) z)
      refine r_ic (v := nI 1) C rfl (by decide) ?_
      exact q_iret C hQ rfl rfl rfl ⟨by rw [ew, ← e, ha]; rfl, rfl, rfl, rfl⟩
    | succ m ih =>
      intro j hj ha
      obtain ⟨b1, b2⟩ := hT.2.2 (σ.2.2.2.1 + j) (by omega)
      have hc := hw7.2 j (by omega)
      refine r_iload_n C 2 rfl rfl rfl ?_
      refine r_aload_n C 1 rfl rfl rfl rfl ?_
      refine k0_r C rfl mfS_len lk_X6_125 hi rfl (c_S_len hi) ?_
      refine r_icmp_ge C 76 rfl (by decide) (fun z => absurd (le_nI (by omega) (by omega) z) (by omega)) (fun _ => ?_)
      refine r_aload_n C 0 rfl rfl rfl rfl ?_
      refine r_geti C rfl f_X6_118 (by assumption) rfl ?_
      rw [h3]
      refine r_iload_n C 2 rfl rfl rfl ?_
      refine r_iadd C rfl ?_
      rw [nI_add]
      refine r_aload_n C 0 rfl rfl rfl rfl ?_
      refine r_geti C rfl f_X6_28 (by assumption) rfl ?_
      rw [hT.2.1]
      refine r_icmp_ge C 76 rfl (by decide) (fun z => absurd (le_nI (by omega) (by omega) z) (by omega)) (fun _ => ?_)
      refine r_aload_n C 0 rfl rfl rfl rfl ?_
      refine r_getv C rfl f_X6_9 (by assumption) rfl ?_
      refine r_aload_n C 0 rfl rfl rfl rfl ?_
      refine r_geti C rfl f_X6_118 (by assumption) rfl ?_
      rw [h3]
      refine r_iload_n C 2 rfl rfl rfl ?_
      refine r_iadd C rfl ?_
      rw [nI_add]
      refine r_bald C rfl (by assumption) (σ.2.2.2.1 + j) rfl (by omega) (by decide) ?_
      refine r_aload_n C 1 rfl rfl rfl rfl ?_
      refine r_iload_n C 2 rfl rfl rfl ?_
      refine k1_r C rfl mfS_charAt lk_X6_129 hi rfl (c_S_charAt hi (by omega)) ?_
      refine r_icmp_eq C 70 rfl (by decide) (fun h => ?_) (fun h => ?_)
      · refine r_iinc (c := nI 1) C rfl rfl (by decide) ?_
        refine r_goto C 28 rfl (by decide) ?_
        refine r_eqL ?_ (ih (j + 1) (by omega) (by rw [allB, ha, decide_eq_true (b2.symm.trans ((byt_eq b1 hc).mp h))]; rfl))
        first | rfl | (simp only [sm, add3, nI_add, Int32.add_zero, Int32.zero_add]; rfl)
      · have ea : allB (fun j => decide (β (σ.2.2.2.1 + j) = nI ((wordB i).getD j 0))) (j + 1) = false := by
          rw [allB, decide_eq_false (fun z => h ((byt_eq b1 hc).mpr (b2.trans z))), Bool.and_false]
        have ef : wd (wordB i) β σ = false := by rw [ew, show (wordB i).length = j + 1 + m by omega]; exact allB_mono ea m
        refine r_ic (v := nI 0) C rfl (by decide) ?_
        exact q_iret C hQ rfl rfl rfl ⟨by rw [ef]; rfl, rfl, rfl, rfl⟩
  refine r_ic (v := nI 0) C rfl (by decide) ?_
  refine r_istore_n C 2 rfl rfl (by exact Nat.le_of_ble_eq_true rfl) ?_
  exact loop (wordB i).length 0 (by omega) rfl
theorem d_takeWord (hK : KRd Sh N kr tx) (hT : CTx M kr tx n β) (hP : CP M kr σ) (hv : PV β n σ) (hb : σ.1 < 100) {i : Nat} (hi : i < 18) : Con E mX6_takeWord 6 0 0 [.ref kr, .retAddr i] Sh N G M (PR Sh N (fun v M' => v = some (.int (bI (takeW (wordB i) β n σ).1)) ∧ FJ kr JK M M' ∧ CP M' kr (takeW (wordB i) β n σ).2)) nox := by
  obtain ⟨k0, k1, k2⟩ := id hK
  obtain ⟨h2, h3, h4, h5, h6⟩ := id hP
  refine Con.ofQ (by decide +kernel) (by simp [Value.category]) (Nat.le_of_ble_eq_true rfl) (fun k C0 Q hQ => ?_)
  have C : CK k E mX6_takeWord kdX6_takeWord 6 0 0 := ⟨C0, kdX6_takeWord_ok⟩
  have no : takeW (wordB i) β n σ = (false, σ) → PT k E Q 0 0 Sh N G M 15 [some (.ref kr), some (.retAddr i)] [] := by
    intro e
    refine r_ic (v := nI 0) C rfl (by decide) ?_
    exact q_iret C hQ rfl rfl rfl ⟨rfl, rfl, by rw [e]; rfl, FJ.rfl, by rw [e]; exact hP⟩
  refine r_aload_n C 0 rfl rfl rfl rfl ?_
  refine r_geti C rfl f_X6_34 (by assumption) rfl ?_
  rw [h5]
  refine r_if_ne C 15 rfl (by decide) (fun h => no ?_) (fun hb0 => ?_)
  · unfold takeW
    rw [if_neg]
    rintro ⟨z1, z2⟩
    exact h (by rw [z1]; rfl)
  have hb0 : σ.1 = 0 := (nI_eq (b := 0) (by omega) (by omega)).mp hb0
  refine r_aload_n C 0 rfl rfl rfl rfl ?_
  refine r_aload_n C 1 rfl rfl rfl rfl ?_
  refine v1_r C rfl mfX6_atWord lk_X6_54 (by assumption) (d_atWord hK hT hP hv hi) ?_
  refine r_if_ne C 17 rfl (by decide) (fun h => ?_) (fun h => no ?_)
  · have h := bI_1 h
    have e : takeW (wordB i) β n σ = (true, adv β n σ) := by unfold takeW; rw [if_pos ⟨hb0, h⟩]
    refine r_aload_n C 0 rfl rfl rfl rfl ?_
    refine v0_g C rfl mfX6_advance lk_X6_42 (by assumption) (d_adv hK hT hP hv) ?_
    rintro z M1 ⟨rfl, hF, hP1⟩
    refine r_ic (v := nI 1) C rfl (by decide) ?_
    exact q_iret C hQ rfl rfl rfl ⟨rfl, rfl, by rw [e]; rfl, hF, by rw [e]; exact hP1⟩
  · have h := bI_0 h
    unfold takeW
    rw [if_neg]
    rintro ⟨z1, z2⟩
    rw [h] at z2
    cases z2
theorem d_takeOption (hK : KRd Sh N kr tx) (hT : CTx M kr tx n β) (hP : CP M kr σ) (hv : PV β n σ) (hb : σ.1 < 100) {i : Nat} (hi : i < 18) {x y : Int32} (hh wo : Nat) (hx : x = nI hh) (hy : y = nI wo) (hl : hh < 1000) : Con E mX6_takeOption 7 0 0 [.ref kr, .retAddr i, .int x, .int y] Sh N G M (PR Sh N (fun v M' => v = some (.int (nI (takeO (wordB i) β n hh wo σ).1)) ∧ FJ kr JL M M' ∧ CP M' kr (takeO (wordB i) β n hh wo σ).2)) nox := by
  subst hx; subst hy
  obtain ⟨k0, k1, k2⟩ := id hK
  have h1 := takeW_rv (β := β) (wordB i) hv
  refine Con.ofQ (by decide +kernel) (by simp [Value.category]) (Nat.le_of_ble_eq_true rfl) (fun k C0 Q hQ => ?_)
  have C : CK k E mX6_takeOption kdX6_takeOption 7 0 0 := ⟨C0, kdX6_takeOption_ok⟩
  refine r_aload_n C 0 rfl rfl rfl rfl ?_
  refine r_aload_n C 1 rfl rfl rfl rfl ?_
  refine v1_g C rfl mfX6_takeWord lk_X6_103 (by assumption) (d_takeWord hK hT hP hv hb hi) ?_
  rintro z M1 ⟨rfl, hF, hP1⟩
  have hT1 := hT.fj hF (by decide) (by omega)
  refine r_if_eq C 17 rfl (by decide) (fun h => ?_) (fun h => ?_)
  · have h := bI_0 h
    have e : takeO (wordB i) β n hh wo σ = (wo, (takeW (wordB i) β n σ).2) := by unfold takeO; rw [h, if_neg ff_t]
    refine r_iload_n C 3 rfl rfl rfl ?_
    exact q_iret C hQ rfl rfl rfl ⟨rfl, rfl, by rw [e], hF.mono (fun j z => by simp only [JL]; simp only [JK] at z; omega), by rw [e]; exact hP1⟩
  · have h := bI_1 h
    have e : takeO (wordB i) β n hh wo σ = takeN β n 0 hh (takeW (wordB i) β n σ).2 := by unfold takeO; rw [h, if_pos tt_t]
    refine r_aload_n C 0 rfl rfl rfl rfl ?_
    refine r_ic (v := nI 0) C rfl (by decide) ?_
    refine r_iload_n C 2 rfl rfl rfl ?_
    refine v2_g C rfl mfX6_takeNumber lk_X6_79 (by assumption) (d_takeNumber hK hT1 hP1 h1.1 (takeW_c _ hb) 0 hh rfl rfl (by decide) hl) ?_
    rintro z M2 ⟨rfl, hF2, hP2⟩
    refine r_goto C 18 rfl (by decide) ?_
    exact q_iret C hQ rfl rfl rfl ⟨rfl, rfl, by rw [e], (hF.mono (fun j z => by simp only [JL]; simp only [JK] at z; omega)).trans hF2, by rw [e]; exact hP2⟩
end CREAD
