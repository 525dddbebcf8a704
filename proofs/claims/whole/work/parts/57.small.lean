section SMALL
variable {E : VE} {Sh : Nat → SE} {N : Nat} {G : Bool} {M : MM} {o r w v yd yv t b w0 fo p bw q kb kh : Nat}
/-- bricks: how many, the greatest share that cracked, the least that did not -/
abbrev BR : Type := Nat × Int32 × Int32
def brG (st : BR) (s : Int32) (c : Bool) : Bool := if c = true then decide (st.2.2 ≠ -1 ∧ st.2.2 ≤ s) else decide (s ≤ st.2.1)
def brNo (st : BR) (s : Int32) (c : Bool) : Bool := decide (st.1 = 40) || !inI s 0 (nI 100) || brG st s c
def brS (st : BR) (s : Int32) (c : Bool) : BR := if brNo st s c = true then st else (st.1 + 1, if c = true then mx st.2.1 s else st.2.1, if c = true then st.2.2 else if st.2.2 = -1 then s else mi st.2.2 s)
def share (x : Int32) : Prop := x = -1 ∨ inI x 0 (nI 100) = true
def BrOk (st : BR) : Prop := st.1 ≤ 40 ∧ share st.2.1 ∧ share st.2.2
theorem share_I {x : Int32} (h : share x) : x.toInt = -1 ∨ (0 ≤ x.toInt ∧ x.toInt ≤ 100) := by
  rcases h with h | h
  · left; rw [h]; rfl
  · right
    obtain ⟨n, h1, h2, rfl⟩ := (inI_iff (a := 0) (by decide) (by decide)).mp h
    rw [nI_toInt (by omega)]
    omega
theorem br_ok {st : BR} (h : BrOk st) (s : Int32) (c : Bool) : BrOk (brS st s c) := by
  unfold brS
  by_cases q : brNo st s c = true
  · rw [if_pos q]; exact h
  · rw [if_neg q]
    have q : brNo st s c = false := by cases e : brNo st s c with | false => rfl | true => exact absurd e q
    simp only [brNo, Bool.or_eq_false_iff] at q
    obtain ⟨⟨q1, q2⟩, q3⟩ := q
    have q1 := of_decide_eq_false q1
    have q2 : inI s 0 (nI 100) = true := by simpa using q2
    refine ⟨by show st.1 + 1 ≤ 40; have := h.1; omega, ?_, ?_⟩
    · show share (if c = true then mx st.2.1 s else st.2.1)
      split
      · simp only [mx]
        split
        · exact Or.inr q2
        · exact h.2.1
      · exact h.2.1
    · show share (if c = true then st.2.2 else if st.2.2 = -1 then s else mi st.2.2 s)
      split
      · exact h.2.2
      · split
        · exact Or.inr q2
        · simp only [mi]
          split
          · exact Or.inr q2
          · exact h.2.2
def KB (Sh : Nat → SE) (N kb : Nat) : Prop := At Sh N kb (.inr (0, [none, none, none]))
def BRC (M : MM) (kb : Nat) (st : BR) : Prop := M kb 0 = nI st.1 ∧ M kb 1 = st.2.1 ∧ M kb 2 = st.2.2
theorem BRC.cong {M' : MM} {st : BR} (h : BRC M kb st) (h1 : M' kb = M kb) : BRC M' kb st := by
  unfold BRC
  rw [h1]
  exact h
theorem k_gain (hK : KB Sh N kb) {st : BR} (hB : BRC M kb st) (s : Int32) (c : Bool) : Con E mX0_gainsays 1 0 0 [.ref kb, .int s, .int (bI c)] Sh N G M (P1 (some (.int (bI (brG st s c)))) Sh N M) nox := by
  unfold KB at hK
  obtain ⟨b0, b1, b2⟩ := hB
  refine Con.ofQ (by decide +kernel) (by simp [Value.category]) (Nat.le_of_ble_eq_true rfl) (fun k C0 Q hQ => ?_)
  have C : CK k E mX0_gainsays kdX0_gainsays 1 0 0 := ⟨C0, kdX0_gainsays_ok⟩
  refine r_iload_n C 2 rfl rfl rfl ?_
  refine r_if_eq C 28 rfl (by decide) (fun h => ?_) (fun h => ?_)
  · have h := bI_0 h
    subst h
    refine r_iload_n C 1 rfl rfl rfl ?_
    refine r_aload_n C 0 rfl rfl rfl rfl ?_
    refine r_geti C rfl f_X0_9 (by assumption) rfl ?_
    rw [b1]
    refine r_icmp_gt C 40 rfl (by decide) (fun h => ?_) (fun h => ?_)
    · refine r_ic (v := nI 0) C rfl (by decide) ?_
      exact q_iret C hQ rfl rfl rfl ⟨by rw [brG, if_neg (by decide), decide_eq_false (Int32.not_le.mpr h)]; rfl, rfl, rfl, rfl⟩
    · refine r_ic (v := nI 1) C rfl (by decide) ?_
      refine r_goto C 41 rfl (by decide) ?_
      exact q_iret C hQ rfl rfl rfl ⟨by rw [brG, if_neg (by decide), decide_eq_true (Int32.not_lt.mp h)]; rfl, rfl, rfl, rfl⟩
  · have h := bI_1 h
    subst h
    have no : ¬ (st.2.2 ≠ -1 ∧ st.2.2 ≤ s) → PT k E Q 0 0 Sh N G M 24 [some (.ref kb), some (.int s), some (.int (bI true))] [] := by
      intro h
      refine r_ic (v := nI 0) C rfl (by decide) ?_
      refine r_goto C 41 rfl (by decide) ?_
      exact q_iret C hQ rfl rfl rfl ⟨by rw [brG, if_pos rfl, decide_eq_false h]; rfl, rfl, rfl, rfl⟩
    refine r_aload_n C 0 rfl rfl rfl rfl ?_
    refine r_geti C rfl f_X0_15 (by assumption) rfl ?_
    refine r_ic (v := (-1)) C rfl (by decide) ?_
    rw [b2]
    refine r_icmp_eq C 24 rfl (by decide) (fun h => no (fun q => q.1 h)) (fun h => ?_)
    refine r_iload_n C 1 rfl rfl rfl ?_
    refine r_aload_n C 0 rfl rfl rfl rfl ?_
    refine r_geti C rfl f_X0_15 (by assumption) rfl ?_
    rw [b2]
    refine r_icmp_lt C 24 rfl (by decide) (fun h2 => no (fun q => Int32.not_le.mpr h2 q.2)) (fun h2 => ?_)
    refine r_ic (v := nI 1) C rfl (by decide) ?_
    refine r_goto C 41 rfl (by decide) ?_
    exact q_iret C hQ rfl rfl rfl ⟨by rw [brG, if_pos rfl, decide_eq_true ⟨h, Int32.not_lt.mp h2⟩]; rfl, rfl, rfl, rfl⟩
theorem inI_lo {s a z : Int32} (h : s < a) : inI s a z = false := decide_eq_false (fun q => Int32.not_le.mpr h q.1)
theorem inI_hi {s a z : Int32} (h : z < s) : inI s a z = false := decide_eq_false (fun q => Int32.not_le.mpr h q.2)
theorem inI_y {s a z : Int32} (h : ¬ s < a) (h2 : ¬ z < s) : inI s a z = true := decide_eq_true ⟨Int32.not_lt.mp h, Int32.not_lt.mp h2⟩
theorem k_add (hK : KB Sh N kb) {st : BR} (hB : BRC M kb st) (hO : BrOk st) (s : Int32) (c : Bool) : Con E mX0_add 3 0 0 [.ref kb, .int s, .int (bI c)] Sh N G M (PR Sh N (fun v M' => v = some (.int (bI (!brNo st s c))) ∧ Fr (fun x => x = kb) M M' ∧ BRC M' kb (brS st s c))) nox := by
  have hK' := hK
  unfold KB at hK
  have hB' := hB
  obtain ⟨b0, b1, b2⟩ := hB
  have h40 := hO.1
  refine Con.ofQ (by decide +kernel) (by simp [Value.category]) (Nat.le_of_ble_eq_true rfl) (fun k C0 Q hQ => ?_)
  have C : CK k E mX0_add kdX0_add 3 0 0 := ⟨C0, kdX0_add_ok⟩
  have no : brNo st s c = true → PT k E Q 0 0 Sh N G M 28 [some (.ref kb), some (.int s), some (.int (bI c))] [] := by
    intro h
    refine r_ic (v := nI 0) C rfl (by decide) ?_
    exact q_iret C hQ rfl rfl rfl ⟨rfl, rfl, by rw [h]; rfl, Fr.rfl, by rw [brS, if_pos h]; exact hB'⟩
  refine r_aload_n C 0 rfl rfl rfl rfl ?_
  refine r_geti C rfl f_X0_18 (by assumption) rfl ?_
  rw [b0]
  refine r_bi (v := nI 40) C rfl (by decide) ?_
  refine r_icmp_ge C 28 rfl (by decide) (fun h => no ?_) (fun h => ?_)
  · have h := le_nI (by omega) (by omega) h
    rw [brNo, decide_eq_true (by omega), Bool.true_or, Bool.true_or]
  have h := nle_nI (by omega) (by omega) h
  refine r_iload_n C 1 rfl rfl rfl ?_
  refine r_if_lt C 28 rfl (by decide) (fun h2 => no ?_) (fun h2 => ?_)
  · rw [brNo, inI_lo h2, Bool.not_false, Bool.or_true, Bool.true_or]
  refine r_iload_n C 1 rfl rfl rfl ?_
  refine r_bi (v := nI 100) C rfl (by decide) ?_
  refine r_icmp_gt C 28 rfl (by decide) (fun h3 => no ?_) (fun h3 => ?_)
  · rw [brNo, inI_hi h3, Bool.not_false, Bool.or_true, Bool.true_or]
  refine r_aload_n C 0 rfl rfl rfl rfl ?_
  refine r_iload_n C 1 rfl rfl rfl ?_
  refine r_iload_n C 2 rfl rfl rfl ?_
  refine v2_r C rfl mfX0_gainsays lk_X0_21 (by assumption) (k_gain hK' hB' s c) ?_
  refine r_if_eq C 30 rfl (by decide) (fun h4 => ?_) (fun h4 => ?_)
  rotate_left
  · refine r_ic (v := nI 0) C rfl (by decide) ?_
    have h4 := bI_1 h4
    have e : brNo st s c = true := by rw [brNo, h4, Bool.or_true]
    exact q_iret C hQ rfl rfl rfl ⟨rfl, rfl, by rw [e]; rfl, Fr.rfl, by rw [brS, if_pos e]; exact hB'⟩
  have h4 := bI_0 h4
  have e : brNo st s c = false := by rw [brNo, h4, inI_y h2 h3, decide_eq_false (by omega)]; rfl
  have eS : brS st s c = (st.1 + 1, if c = true then mx st.2.1 s else st.2.1, if c = true then st.2.2 else if st.2.2 = -1 then s else mi st.2.2 s) := by rw [brS, if_neg (by rw [e]; decide)]
  refine r_aload_n C 0 rfl rfl rfl rfl ?_
  refine r_dup C rfl rfl ?_
  refine r_geti C rfl f_X0_18 (by assumption) rfl ?_
  rw [b0]
  refine r_ic (v := nI 1) C rfl (by decide) ?_
  refine r_iadd C rfl ?_
  rw [nI_add]
  refine r_puti C rfl f_X0_18 (by assumption) rfl rfl rfl ?_
  obtain ⟨M1, hM1⟩ : ∃ M1, M1 = up M kb 0 (nI (st.1 + 1)) := ⟨_, rfl⟩
  rw [← hM1]
  have f1 : Fr (fun x => x = kb) M M1 := fun k hk => by rw [hM1, up_row _ _ hk]
  have c0 : M1 kb 0 = nI (st.1 + 1) := by rw [hM1, up_same]
  have c1 : M1 kb 1 = st.2.1 := by rw [hM1, up_ne _ _ (by omega)]; exact b1
  have c2 : M1 kb 2 = st.2.2 := by rw [hM1, up_ne _ _ (by omega)]; exact b2
  have fin : ∀ M2, Fr (fun x => x = kb) M M2 → BRC M2 kb (brS st s c) → PT k E Q 0 0 Sh N G M2 83 [some (.ref kb), some (.int s), some (.int (bI c))] [] := by
    intro M2 f2 B2
    refine r_ic (v := nI 1) C rfl (by decide) ?_
    exact q_iret C hQ rfl rfl rfl ⟨rfl, rfl, by rw [e]; rfl, f2, B2⟩
  refine r_iload_n C 2 rfl rfl rfl ?_
  refine r_if_eq C 59 rfl (by decide) (fun h5 => ?_) (fun h5 => ?_)
  · have h5 := bI_0 h5
    have go : ∀ z, z = (if st.2.2 = -1 then s else mi st.2.2 s) → PT k E Q 0 0 Sh N G M1 80 [some (.ref kb), some (.int s), some (.int (bI c))] [.int z, .ref kb] := by
      intro z hz
      refine r_puti C rfl f_X0_15 (by assumption) rfl rfl rfl ?_
      refine fin _ (fun x hx => by rw [up_row _ _ hx]; exact f1 x hx) ?_
      rw [eS, h5, if_neg (by decide), if_neg (by decide)]
      exact ⟨by rw [up_ne _ _ (by omega)]; exact c0, by rw [up_ne _ _ (by omega)]; exact c1, by rw [up_same]; exact hz⟩
    refine r_aload_n C 0 rfl rfl rfl rfl ?_
    refine r_aload_n C 0 rfl rfl rfl rfl ?_
    refine r_geti C rfl f_X0_15 (by assumption) rfl ?_
    rw [c2]
    refine r_ic (v := (-1)) C rfl (by decide) ?_
    refine r_icmp_ne C 72 rfl (by decide) (fun h6 => ?_) (fun h6 => ?_)
    · refine r_aload_n C 0 rfl rfl rfl rfl ?_
      refine r_geti C rfl f_X0_15 (by assumption) rfl ?_
      rw [c2]
      refine r_iload_n C 1 rfl rfl rfl ?_
      refine r_min C rfl lk_X0_31 ?_
      exact go _ (by rw [if_neg h6])
    · refine r_iload_n C 1 rfl rfl rfl ?_
      refine r_goto C 80 rfl (by decide) ?_
      exact go _ (by rw [if_pos h6])
  · have h5 := bI_1 h5
    refine r_aload_n C 0 rfl rfl rfl rfl ?_
    refine r_aload_n C 0 rfl rfl rfl rfl ?_
    refine r_geti C rfl f_X0_9 (by assumption) rfl ?_
    rw [c1]
    refine r_iload_n C 1 rfl rfl rfl ?_
    refine r_max C rfl lk_X0_25 ?_
    refine r_puti C rfl f_X0_9 (by assumption) rfl rfl rfl ?_
    refine r_goto C 83 rfl (by decide) ?_
    refine fin _ (fun x hx => by rw [up_row _ _ hx]; exact f1 x hx) ?_
    rw [eS, h5, if_pos rfl, if_pos rfl]
    exact ⟨by rw [up_ne _ _ (by omega)]; exact c0, up_same _ _ _ _, by rw [up_ne _ _ (by omega)]; exact c2⟩
theorem k_forget (hK : KB Sh N kb) : Con E mX0_forget 1 0 0 [.ref kb] Sh N G M (PR Sh N (fun v M' => v = none ∧ Fr (fun x => x = kb) M M' ∧ BRC M' kb (0, -1, -1))) nox := by
  unfold KB at hK
  refine Con.ofQ (by decide +kernel) (by simp [Value.category]) (Nat.le_of_ble_eq_true rfl) (fun k C0 Q hQ => ?_)
  have C : CK k E mX0_forget kdX0_forget 1 0 0 := ⟨C0, kdX0_forget_ok⟩
  refine r_aload_n C 0 rfl rfl rfl rfl ?_
  refine r_ic (v := nI 0) C rfl (by decide) ?_
  refine r_puti C rfl f_X0_18 (by assumption) rfl rfl rfl ?_
  refine r_aload_n C 0 rfl rfl rfl rfl ?_
  refine r_ic (v := (-1)) C rfl (by decide) ?_
  refine r_puti C rfl f_X0_9 (by assumption) rfl rfl rfl ?_
  refine r_aload_n C 0 rfl rfl rfl rfl ?_
  refine r_ic (v := (-1)) C rfl (by decide) ?_
  refine r_puti C rfl f_X0_15 (by assumption) rfl rfl rfl ?_
  refine q_vret C hQ rfl rfl ⟨rfl, rfl, rfl, fun x hx => by rw [up_row _ _ hx, up_row _ _ hx, up_row _ _ hx], ?_, ?_, up_same _ _ _ _⟩
  · rw [up_ne _ _ (by omega), up_ne _ _ (by omega), up_same]
  · rw [up_ne _ _ (by omega), up_same]
/-- the ends between which the line lies -/
def brLo (st : BR) : Int32 := if st.2.1 = -1 then 0 else st.2.1
def brHi (st : BR) : Int32 := if st.2.2 = -1 then nI 100 else st.2.2
theorem k_low (hK : KB Sh N kb) {st : BR} (hB : BRC M kb st) : Con E mX0_lowEnd 1 0 0 [.ref kb] Sh N G M (P1 (some (.int (brLo st))) Sh N M) nox := by
  unfold KB at hK
  obtain ⟨b0, b1, b2⟩ := hB
  refine Con.ofQ (by decide +kernel) (by simp [Value.category]) (Nat.le_of_ble_eq_true rfl) (fun k C0 Q hQ => ?_)
  have C : CK k E mX0_lowEnd kdX0_lowEnd 1 0 0 := ⟨C0, kdX0_lowEnd_ok⟩
  refine r_aload_n C 0 rfl rfl rfl rfl ?_
  refine r_geti C rfl f_X0_9 (by assumption) rfl ?_
  rw [b1]
  refine r_ic (v := (-1)) C rfl (by decide) ?_
  refine r_icmp_ne C 12 rfl (by decide) (fun h => ?_) (fun h => ?_)
  · refine r_aload_n C 0 rfl rfl rfl rfl ?_
    refine r_geti C rfl f_X0_9 (by assumption) rfl ?_
    rw [b1]
    exact q_iret C hQ rfl rfl rfl ⟨by rw [brLo, if_neg h], rfl, rfl, rfl⟩
  · refine r_ic (v := nI 0) C rfl (by decide) ?_
    refine r_goto C 16 rfl (by decide) ?_
    exact q_iret C hQ rfl rfl rfl ⟨by rw [brLo, if_pos h]; rfl, rfl, rfl, rfl⟩
theorem k_high (hK : KB Sh N kb) {st : BR} (hB : BRC M kb st) : Con E mX0_highEnd 1 0 0 [.ref kb] Sh N G M (P1 (some (.int (brHi st))) Sh N M) nox := by
  unfold KB at hK
  obtain ⟨b0, b1, b2⟩ := hB
  refine Con.ofQ (by decide +kernel) (by simp [Value.category]) (Nat.le_of_ble_eq_true rfl) (fun k C0 Q hQ => ?_)
  have C : CK k E mX0_highEnd kdX0_highEnd 1 0 0 := ⟨C0, kdX0_highEnd_ok⟩
  refine r_aload_n C 0 rfl rfl rfl rfl ?_
  refine r_geti C rfl f_X0_15 (by assumption) rfl ?_
  rw [b2]
  refine r_ic (v := (-1)) C rfl (by decide) ?_
  refine r_icmp_ne C 13 rfl (by decide) (fun h => ?_) (fun h => ?_)
  · refine r_aload_n C 0 rfl rfl rfl rfl ?_
    refine r_geti C rfl f_X0_15 (by assumption) rfl ?_
    rw [b2]
    exact q_iret C hQ rfl rfl rfl ⟨by rw [brHi, if_neg h], rfl, rfl, rfl⟩
  · refine r_bi (v := nI 100) C rfl (by decide) ?_
    refine r_goto C 17 rfl (by decide) ?_
    exact q_iret C hQ rfl rfl rfl ⟨by rw [brHi, if_pos h], rfl, rfl, rfl⟩
theorem k_next (hK : KB Sh N kb) {st : BR} (hB : BRC M kb st) : Con E mX0_nextShare 2 0 0 [.ref kb] Sh N G M (P1 (some (.int ((brLo st + brHi st) / nI 2))) Sh N M) nox := by
  have hK' := hK
  unfold KB at hK
  refine Con.ofQ (by decide +kernel) (by simp [Value.category]) (Nat.le_of_ble_eq_true rfl) (fun k C0 Q hQ => ?_)
  have C : CK k E mX0_nextShare kdX0_nextShare 2 0 0 := ⟨C0, kdX0_nextShare_ok⟩
  refine r_aload_n C 0 rfl rfl rfl rfl ?_
  refine v0_r C rfl mfX0_lowEnd lk_X0_34 (by assumption) (k_low hK' hB) ?_
  refine r_aload_n C 0 rfl rfl rfl rfl ?_
  refine v0_r C rfl mfX0_highEnd lk_X0_38 (by assumption) (k_high hK' hB) ?_
  refine r_iadd C rfl ?_
  refine r_ic (v := nI 2) C rfl (by decide) ?_
  refine r_idiv C rfl (by decide) ?_
  exact q_iret C hQ rfl rfl rfl ⟨rfl, rfl, rfl, rfl⟩
/-- how many halvings, f being enough -/
def halv : Nat → Int32 → Nat
  | 0, _ => 0
  | f + 1, d => if d ≤ nI 1 then 0 else halv f ((d + nI 1) / nI 2) + 1
theorem halv_le : ∀ f d, halv f d ≤ f
  | 0, _ => Nat.le_refl _
  | f + 1, d => by
    have := halv_le f ((d + nI 1) / nI 2)
    rw [halv]
    split <;> omega
theorem br_d {st : BR} (h : BrOk st) : (brHi st - brLo st).toInt ≤ 100 := by
  have h1 := share_I h.2.1
  have h2 := share_I h.2.2
  have e1 : (brHi st).toInt ≤ 100 ∧ 0 ≤ (brHi st).toInt := by
    unfold brHi
    split
    · exact ⟨by decide, by decide⟩
    · rename_i q
      have : st.2.2.toInt ≠ -1 := fun z => q (Int32.toInt_inj.mp (by rw [z]; rfl))
      omega
  have e2 : (brLo st).toInt ≤ 100 ∧ 0 ≤ (brLo st).toInt := by
    unfold brLo
    split
    · exact ⟨by decide, by decide⟩
    · rename_i q
      have : st.2.1.toInt ≠ -1 := fun z => q (Int32.toInt_inj.mp (by rw [z]; rfl))
      omega
  rw [fb_subI (by omega) (by omega)]
  omega
theorem halv_step {d : Int32} {B : Int} (h : d.toInt ≤ B) (hB : B ≤ 1000) (h1 : ¬ d ≤ nI 1) : 1 ≤ ((d + nI 1) / nI 2).toInt ∧ ((d + nI 1) / nI 2).toInt ≤ (B + 1) / 2 := by
  have h1 : 1 < d.toInt := by
    rw [Int32.le_iff_toInt_le] at h1
    have : (nI 1).toInt = 1 := rfl
    omega
  have e : (d + nI 1).toInt = d.toInt + 1 := by rw [fb_addI (by have : (nI 1).toInt = 1 := rfl; omega) (by have : (nI 1).toInt = 1 := rfl; omega)]; rfl
  have e2 : ((d + nI 1) / nI 2).toInt = (d.toInt + 1) / 2 := by rw [ti_divP (by decide) (by omega), e]; rfl
  rw [e2]
  omega
/-- nine halvings are enough -/
theorem halv_fuel : ∀ (f : Nat) {d : Int32}, d.toInt ≤ 2 ^ f → f ≤ 9 → ∀ g, f ≤ g → halv (g + 1) d = halv (f + 1) d
  | 0, d, h, _, g, _ => by
    have : d ≤ nI 1 := by rw [Int32.le_iff_toInt_le]; exact h
    rw [halv, if_pos this, halv, if_pos this]
  | f + 1, d, h, hf, g, hg => by
    rw [halv, halv]
    by_cases q : d ≤ nI 1
    · rw [if_pos q, if_pos q]
    · rw [if_neg q, if_neg q]
      have hp : (2 : Int) ^ (f + 1) = 2 * 2 ^ f := by rw [Int.pow_succ]; omega
      have hb : (2 : Int) ^ f ≤ 256 := by
        have : f ≤ 8 := by omega
        rcases (show f = 0 ∨ f = 1 ∨ f = 2 ∨ f = 3 ∨ f = 4 ∨ f = 5 ∨ f = 6 ∨ f = 7 ∨ f = 8 by omega) with e | e | e | e | e | e | e | e | e <;> subst e <;> decide
      obtain ⟨h2, h3⟩ := halv_step h (by omega) q
      obtain ⟨g', rfl⟩ : ∃ g', g = g' + 1 := ⟨g - 1, by omega⟩
      rw [halv_fuel f (d := (d + nI 1) / nI 2) (by omega) (by omega) g' (by omega)]
theorem k_few (hK : KB Sh N kb) {st : BR} (hB : BRC M kb st) (hO : BrOk st) : Con E mX0_fewestTrials 2 0 0 [.ref kb] Sh N G M (P1 (some (.int (nI (halv 10 (brHi st - brLo st))))) Sh N M) nox := by
  have hK' := hK
  unfold KB at hK
  have hd := br_d hO
  refine Con.ofQ (by decide +kernel) (by simp [Value.category]) (Nat.le_of_ble_eq_true rfl) (fun k C0 Q hQ => ?_)
  have C : CK k E mX0_fewestTrials kdX0_fewestTrials 2 0 0 := ⟨C0, kdX0_fewestTrials_ok⟩
  have loop : ∀ (f n : Nat) (d : Int32) (B : Int), f + n = 9 → d.toInt ≤ 2 ^ f → halv 10 (brHi st - brLo st) = n + halv (f + 1) d → PT k E Q 0 0 Sh N G M 12 [some (.ref kb), some (.int (nI n)), some (.int d)] [] := by
    intro f
    induction f with
    | zero =>
      intro n d B hn hd he
      have hd1 : d ≤ nI 1 := by rw [Int32.le_iff_toInt_le]; exact hd
      refine r_iload_n C 2 rfl rfl rfl ?_
      refine r_ic (v := nI 1) C rfl (by decide) ?_
      refine r_icmp_le C 35 rfl (by decide) (fun h => ?_) (fun h => absurd hd1 h)
      refine r_iload_n C 1 rfl rfl rfl ?_
      exact q_iret C hQ rfl rfl rfl ⟨by rw [he, halv, if_pos hd1, Nat.add_zero], rfl, rfl, rfl⟩
    | succ f ih =>
      intro n d B hn hd he
      refine r_iload_n C 2 rfl rfl rfl ?_
      refine r_ic (v := nI 1) C rfl (by decide) ?_
      refine r_icmp_le C 35 rfl (by decide) (fun h => ?_) (fun h => ?_)
      · refine r_iload_n C 1 rfl rfl rfl ?_
        exact q_iret C hQ rfl rfl rfl ⟨by rw [he, halv, if_pos h, Nat.add_zero], rfl, rfl, rfl⟩
      have hp : (2 : Int) ^ (f + 1) = 2 * 2 ^ f := by rw [Int.pow_succ]; omega
      have hb : (2 : Int) ^ f ≤ 256 := by
        rcases (show f = 0 ∨ f = 1 ∨ f = 2 ∨ f = 3 ∨ f = 4 ∨ f = 5 ∨ f = 6 ∨ f = 7 ∨ f = 8 by omega) with e | e | e | e | e | e | e | e | e <;> subst e <;> decide
      obtain ⟨h2, h3⟩ := halv_step hd (by omega) h
      rw [show halv (f + 1 + 1) d = halv (f + 1) ((d + nI 1) / nI 2) + 1 from by rw [halv, if_neg h]] at he
      refine r_iload_n C 1 rfl rfl rfl ?_
      refine r_bi (v := nI 100) C rfl (by decide) ?_
      refine r_icmp_ge C 35 rfl (by decide) (fun z => absurd (le_nI (by omega) (by omega) z) (by omega)) (fun _ => ?_)
      refine r_iinc (c := nI 1) C rfl rfl (by decide) ?_
      refine r_iload_n C 2 rfl rfl rfl ?_
      refine r_ic (v := nI 1) C rfl (by decide) ?_
      refine r_iadd C rfl ?_
      refine r_ic (v := nI 2) C rfl (by decide) ?_
      refine r_idiv C rfl (by decide) ?_
      refine r_istore_n C 2 rfl rfl (by exact Nat.le_of_ble_eq_true rfl) ?_
      refine r_goto C 12 rfl (by decide) ?_
      refine r_eqL ?_ (ih (n + 1) ((d + nI 1) / nI 2) B (by omega) (by omega) (by rw [he]; omega))
      first | rfl | (simp only [sm, add3, nI_add, Int32.add_zero, Int32.zero_add]; rfl)
  refine r_ic (v := nI 0) C rfl (by decide) ?_
  refine r_istore_n C 1 rfl rfl (by exact Nat.le_of_ble_eq_true rfl) ?_
  refine r_aload_n C 0 rfl rfl rfl rfl ?_
  refine v0_r C rfl mfX0_highEnd lk_X0_38 (by assumption) (k_high hK' hB) ?_
  refine r_aload_n C 0 rfl rfl rfl rfl ?_
  refine v0_r C rfl mfX0_lowEnd lk_X0_34 (by assumption) (k_low hK' hB) ?_
  refine r_isub C rfl ?_
  refine r_istore_n C 2 rfl rfl (by exact Nat.le_of_ble_eq_true rfl) ?_
  exact loop 9 0 (brHi st - brLo st) 0 (by omega) (by have e : (2 : Int) ^ 9 = 512 := by decide
                                                      omega) (by rw [Nat.zero_add])
end SMALL
