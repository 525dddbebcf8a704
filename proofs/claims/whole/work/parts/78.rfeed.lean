section RFEED
variable {E : VE} {Sh : Nat → SE} {N : Nat} {G : Bool} {M M' : MM} {o b : Nat}
/-- a byte, as a number -/
def byt (x : Int32) : Prop := x.toInt8.toInt32 = x
theorem i8_all {P : Int32 → Prop} (h : ∀ b : Fin 256, P (Int8.ofNat b.1).toInt32) (v : Int8) : P v.toInt32 := by
  have e : Int8.ofNat v.toBitVec.toNat = v := by
    apply Int8.toBitVec_inj.1
    simp
  have h1 := h ⟨v.toBitVec.toNat, v.toBitVec.isLt⟩
  rw [e] at h1
  exact h1
theorem byt_of (y : Int32) : byt y.toInt8.toInt32 := i8_all (P := byt) (by unfold byt; decide +kernel) y.toInt8
theorem byt_facts {x : Int32} (hx : byt x) : isSp x = isSp (x &&& nI 255) ∧ isLe x = isLe (x &&& nI 255) ∧ isDi x = isDi (x &&& nI 255) ∧ decide (x = nI 59) = decide (x &&& nI 255 = nI 59) ∧ ((0 ≤ x ∧ x = x &&& nI 255) ∨ (x < 0 ∧ nI 127 < x &&& nI 255)) := by
  unfold byt at hx
  rw [← hx]
  exact i8_all (P := fun x => isSp x = isSp (x &&& nI 255) ∧ isLe x = isLe (x &&& nI 255) ∧ isDi x = isDi (x &&& nI 255) ∧ decide (x = nI 59) = decide (x &&& nI 255 = nI 59) ∧ ((0 ≤ x ∧ x = x &&& nI 255) ∨ (x < 0 ∧ nI 127 < x &&& nI 255))) (by decide +kernel) x.toInt8
theorem byt_eq {x : Int32} (hx : byt x) {c : Nat} (hc : c < 128) : x = nI c ↔ x &&& nI 255 = nI c := by
  rcases (byt_facts hx).2.2.2.2 with ⟨_, h⟩ | ⟨h1, h2⟩
  · rw [← h]
  · constructor
    · intro z
      rw [z] at h1
      exact absurd ((nI_leI (a := 0) (by decide) (by omega)).mpr (Nat.zero_le c)) (Int32.not_le.mpr h1)
    · intro z
      rw [z] at h2
      have := lt_nI (by decide) (by omega) h2
      omega
theorem b8_and (y : Int32) : y.toInt8.toInt32 &&& nI 255 = y &&& nI 255 := by
  apply Int32.toBitVec_inj.1
  apply BitVec.eq_of_getLsbD_eq
  intro i hi
  rw [Int32.toBitVec_and, Int32.toBitVec_and, BitVec.getLsbD_and, BitVec.getLsbD_and]
  by_cases h8 : i < 8
  · rw [Int8.toBitVec_toInt32, Int32.toBitVec_toInt8, BitVec.getLsbD_signExtend, BitVec.getLsbD_signExtend, if_pos h8, if_pos (by omega), decide_eq_true (show i < 32 from hi), decide_eq_true h8]
    rfl
  · have h9 : (nI 255).toBitVec.getLsbD i = false := by
      show (255#32).getLsbD i = false
      rw [BitVec.getLsbD_ofNat]
      have : Nat.testBit 255 i = false := Nat.testBit_lt_two_pow (Nat.lt_of_lt_of_le (by decide : 255 < 2 ^ 8) (Nat.pow_le_pow_right (by decide) (by omega)))
      rw [this, Bool.and_false]
    rw [h9, Bool.and_false, Bool.and_false]
def fwd (p q z y w : Int32) (k : Nat) : Int32 := if k < 4 then p else if k < 8 then q else if k < 12 then z else if k < 16 then y else w
/-- the k-th byte that is fed -/
def fby (p q z y w : Int32) (k : Nat) : Int32 := (fwd p q z y w k >>> (nI (24 - 8 * (k % 4)) &&& 31)).toInt8.toInt32
def fedT (x : ST) (p q z y w : Int32) (m : Nat) : Nat → Int32 := fun i => if x.tl ≤ i ∧ i < x.tl + m then fby p q z y w (i - x.tl) else x.tp i
/-- what 'feed' answers -/
def feedA (x : ST) (p q z y w : Int32) : Int32 × ST := if 680 < x.tl then (-1, x) else (nI (x.tl + 20), x.setT (x.tl + 20) (fedT x p q z y w 20) x.fp)
theorem R_feed (hM : MO Sh N o) {x : ST} (hV : VI b x) (hR : RI M o x) (p q z y w : Int32) : Con E mX12_feed 2 0 0 [.ref o, .int p, .int q, .int z, .int y, .int w] Sh N G M (PR Sh N (RQ M o (feedA x p q z y w).1 0 (feedA x p q z y w).2)) nox := by
  have h0 := hM.1
  have h10 : At Sh N (o + 10) (arE 0 700) := hM.ar 9 rfl
  have htl : x.tl ≤ 700 := hV.2.2.2.2.2.2.2.2
  refine Con.ofQ (by decide +kernel) (by simp [Value.category]) (Nat.le_of_ble_eq_true rfl) (fun k C0 Q hQ => ?_)
  have C : CK k E mX12_feed kdX12_feed 2 0 0 := ⟨C0, kdX12_feed_ok⟩
  refine r_aload_n C 0 rfl rfl rfl rfl ?_
  refine r_ic (v := nI 0) C rfl (by decide) ?_
  refine r_puti C rfl f_X12_90 (by assumption) rfl rfl rfl ?_
  obtain ⟨M1, hM1, hR1, c0, lo1⟩ := hR.c0' hV
  rw [← hM1]
  obtain ⟨t1, t2, t3⟩ := hR1.2.2.2.2.2.2.2.2
  refine r_aload_n C 0 rfl rfl rfl rfl ?_
  refine r_geti C rfl f_X12_100 (by assumption) rfl ?_
  rw [t1]
  refine r_bi (v := nI 20) C rfl (by decide) ?_
  refine r_iadd C rfl ?_
  rw [nI_add]
  refine r_si (v := nI 700) C rfl (by decide) ?_
  refine r_icmp_le C 20 rfl (by decide) (fun h => ?_) (fun h => ?_)
  rotate_left
  · have h := nle_nI (by omega) (by omega) h
    have ea : feedA x p q z y w = (-1, x) := by unfold feedA; rw [if_pos (by omega)]
    refine r_ic (v := (-1)) C rfl (by decide) ?_
    exact q_iret C hQ rfl rfl rfl ⟨rfl, rfl, by rw [ea], c0, by rw [ea]; exact hR1, lo1⟩
  have h := le_nI (by omega) (by omega) h
  have ea : feedA x p q z y w = (nI (x.tl + 20), x.setT (x.tl + 20) (fedT x p q z y w 20) x.fp) := by unfold feedA; rw [if_neg (by omega)]
  rw [ea] at hQ
  have loop : ∀ (m i : Nat) (M2 : MM) (v7 : Option Value), i + m = 20 → FRM o (fun c => c = o + 10) (fun _ => False) (fun j => j = 13) M1 M2 → M2 o 13 = nI (x.tl + i) → (∀ j, j < x.tl + i → M2 (o + 10) j = fedT x p q z y w i j &&& nI 255) → PT k E Q 0 0 Sh N G M2 23 [some (.ref o), some (.int p), some (.int q), some (.int z), some (.int y), some (.int w), some (.int (nI i)), v7] [] := by
    intro m
    induction m with
    | zero =>
      intro i M2 v7 hi hF k13 kt
      have e : i = 20 := by omega
      subst e
      refine r_iload C rfl rfl ?_
      refine r_bi (v := nI 20) C rfl (by decide) ?_
      refine r_icmp_ge C 120 rfl (by decide) (fun _ => ?_) (fun z => absurd (by decide) z)
      refine r_aload_n C 0 rfl rfl rfl rfl ?_
      refine r_geti C rfl f_X12_100 (by assumption) rfl ?_
      rw [k13]
      exact q_iret C hQ rfl rfl rfl ⟨rfl, rfl, rfl, by rw [hF.2.2 0 (by decide)]; exact c0, hR1.toT hV (hF.mono (fun c q => Or.inr q) (fun _ q => q.elim) (fun _ q => Or.inr (Or.inl q))) ⟨k13, kt, by rw [hF.2.2 22 (by decide)]; exact t3⟩, fun c hc => by rw [hF.low (fun c q => by omega) c hc]; exact lo1 c hc⟩
    | succ m ih =>
      intro i M2 v7 hi hF k13 kt
      have put : ∀ v : Int32, v = fwd p q z y w i → PT k E Q 0 0 Sh N G M2 76 [some (.ref o), some (.int p), some (.int q), some (.int z), some (.int y), some (.int w), some (.int (nI i)), v7] [.int v] := by
        intro v hv
        subst hv
        refine r_istore C rfl (by exact Nat.le_of_ble_eq_true rfl) ?_
        refine r_aload_n C 0 rfl rfl rfl rfl ?_
        refine r_getv C rfl f_X12_37 (by assumption) rfl ?_
        refine r_aload_n C 0 rfl rfl rfl rfl ?_
        refine r_geti C rfl f_X12_100 (by assumption) rfl ?_
        rw [k13]
        refine r_iload C rfl rfl ?_
        refine r_bi (v := nI 24) C rfl (by decide) ?_
        refine r_bi (v := nI 8) C rfl (by decide) ?_
        refine r_iload C rfl rfl ?_
        refine r_ic (v := nI 4) C rfl (by decide) ?_
        refine r_irem C rfl (by decide) ?_
        rw [pk_rem (by omega) (by omega) (by omega)]
        refine r_imul C rfl ?_
        rw [pk_mul]
        refine r_isub C rfl ?_
        rw [pk_sub (by omega)]
        refine r_ishr C rfl ?_
        refine r_si (v := nI 255) C rfl (by decide) ?_
        refine r_iand C rfl ?_
        refine r_iast C rfl (by assumption) (x.tl + i) rfl (by omega) (by decide) ?_
        refine r_aload_n C 0 rfl rfl rfl rfl ?_
        refine r_dup C rfl rfl ?_
        refine r_geti C rfl f_X12_100 (by assumption) rfl ?_
        rw [up_row _ _ (by omega), k13]
        refine r_ic (v := nI 1) C rfl (by decide) ?_
        refine r_iadd C rfl ?_
        rw [nI_add]
        refine r_puti C rfl f_X12_100 (by assumption) rfl rfl rfl ?_
        refine r_iinc (c := nI 1) C rfl rfl (by decide) ?_
        refine r_goto C 23 rfl (by decide) ?_
        refine r_eqL ?_ (ih (i + 1) _ (some (.int (fwd p q z y w i))) (by omega) ((hF.trans ((FRM.cel M2 o (o + 10) _ _ (by omega) (by omega)).mono (fun _ q => q) (fun _ q => q) (fun _ q => q.elim))).trans ((FRM.fld _ o 13 _).mono (fun _ q => q.elim) (fun _ q => q) (fun _ q => q))) (by rw [up_same]; rfl) (fun j hj => ?_))
        · first | rfl | (simp only [sm, add3, nI_add, Int32.add_zero, Int32.zero_add]; rfl)
        · rw [up_row _ _ (by omega)]
          by_cases e : j = x.tl + i
          · rw [e, up_same]
            unfold fedT
            rw [if_pos (by omega), show x.tl + i - x.tl = i by omega]
            unfold fby
            rw [b8_and]
          · rw [up_ne _ _ (by omega), kt j (by omega)]
            unfold fedT
            by_cases q1 : x.tl ≤ j ∧ j < x.tl + i
            · rw [if_pos q1, if_pos (by omega)]
            · rw [if_neg q1, if_neg (by omega)]
      refine r_iload C rfl rfl ?_
      refine r_bi (v := nI 20) C rfl (by decide) ?_
      refine r_icmp_ge C 120 rfl (by decide) (fun z => absurd (le_nI (by omega) (by omega) z) (by omega)) (fun _ => ?_)
      refine r_iload C rfl rfl ?_
      refine r_ic (v := nI 4) C rfl (by decide) ?_
      refine r_icmp_ge C 40 rfl (by decide) (fun h4 => ?_) (fun h4 => ?_)
      rotate_left
      · have h4 := nle_nI (a := 4) (by omega) (by omega) h4
        refine r_iload_n C 1 rfl rfl rfl ?_
        refine r_goto C 76 rfl (by decide) ?_
        exact put p (by unfold fwd; rw [if_pos h4])
      have h4 := le_nI (a := 4) (by omega) (by omega) h4
      refine r_iload C rfl rfl ?_
      refine r_bi (v := nI 8) C rfl (by decide) ?_
      refine r_icmp_ge C 51 rfl (by decide) (fun h8 => ?_) (fun h8 => ?_)
      rotate_left
      · have h8 := nle_nI (a := 8) (by omega) (by omega) h8
        refine r_iload_n C 2 rfl rfl rfl ?_
        refine r_goto C 76 rfl (by decide) ?_
        exact put q (by unfold fwd; rw [if_neg (by omega), if_pos h8])
      have h8 := le_nI (a := 8) (by omega) (by omega) h8
      refine r_iload C rfl rfl ?_
      refine r_bi (v := nI 12) C rfl (by decide) ?_
      refine r_icmp_ge C 62 rfl (by decide) (fun h12 => ?_) (fun h12 => ?_)
      rotate_left
      · have h12 := nle_nI (a := 12) (by omega) (by omega) h12
        refine r_iload_n C 3 rfl rfl rfl ?_
        refine r_goto C 76 rfl (by decide) ?_
        exact put z (by unfold fwd; rw [if_neg (by omega), if_neg (by omega), if_pos h12])
      have h12 := le_nI (a := 12) (by omega) (by omega) h12
      refine r_iload C rfl rfl ?_
      refine r_bi (v := nI 16) C rfl (by decide) ?_
      refine r_icmp_ge C 74 rfl (by decide) (fun h16 => ?_) (fun h16 => ?_)
      rotate_left
      · have h16 := nle_nI (a := 16) (by omega) (by omega) h16
        refine r_iload C rfl rfl ?_
        refine r_goto C 76 rfl (by decide) ?_
        exact put y (by unfold fwd; rw [if_neg (by omega), if_neg (by omega), if_neg (by omega), if_pos h16])
      have h16 := le_nI (a := 16) (by omega) (by omega) h16
      refine r_iload C rfl rfl ?_
      exact put w (by unfold fwd; rw [if_neg (by omega), if_neg (by omega), if_neg (by omega), if_neg (by omega)])
  refine r_ic (v := nI 0) C rfl (by decide) ?_
  refine r_istore C rfl (by exact Nat.le_of_ble_eq_true rfl) ?_
  refine loop 20 0 M1 _ (by omega) FRM.rfl t1 (fun j hj => ?_)
  rw [t2 j (by omega)]
  unfold fedT
  rw [if_neg (by omega)]
end RFEED
