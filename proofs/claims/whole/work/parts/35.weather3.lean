section WEATHER3
variable {E : VE} {Sh : Nat → SE} {N : Nat} {G : Bool} {M : MM} {w yd t : Nat} {R : Row}
/-- a cell cracks by frost, by shrinking -/
def coldB (fr : Bool) (a v : Int32) (c : Nat) : Bool := fr && decide (c = 0) && (decide (nI 180 ≤ a) || decide (nI 180 ≤ v))
def shrB (sk a v : Int32) : Bool := decide (nI 60 < sk) && decide (nI 150 ≤ a) && decide (v < nI 150)
theorem cracks_eq (fr : Bool) (sk a v : Int32) (c : Nat) : cracks fr sk a v c = (coldB fr a v c || shrB sk a v) := rfl
/-- behind the layers below l, the frost on l, and c cells of it that shrink -/
def crackL (fr : Bool) (sk : Int32) (u : Nat → Int32) (dp l c : Nat) (R : Row) : Row := fun j =>
  if 181 ≤ j ∧ j < 325 ∧ (j - 181) % 6 < dp ∧ (((j - 181) / 6 < l ∧ cracks fr sk (u (j - 181)) (R (37 + (j - 181))) ((j - 181) % 6) = true) ∨ ((j - 181) / 6 = l ∧ (coldB fr (u (j - 181)) (R (37 + (j - 181))) ((j - 181) % 6) = true ∨ ((j - 181) % 6 < c ∧ shrB sk (u (j - 181)) (R (37 + (j - 181))) = true)))) then R j ||| nI 1 else R j
theorem or1 (x : Int32) : (x ||| nI 1) ||| nI 1 = x ||| nI 1 := by rw [Int32.or_assoc]; congr 1
theorem crackL_lo {fr : Bool} {sk : Int32} {u : Nat → Int32} {dp l c : Nat} {R : Row} {j : Nat} (h : j < 181) : crackL fr sk u dp l c R j = R j := by
  simp only [crackL]
  rw [if_neg (by omega)]
theorem crackL_cold {fr : Bool} {sk : Int32} {u : Nat → Int32} {dp l : Nat} {R : Row} (hd : 1 ≤ dp) (hl : l < 24) (h : coldB fr (u (6 * l)) (R (37 + 6 * l)) 0 = true) : upd (crackR fr sk u dp l 0 R) (181 + 6 * l) (crackR fr sk u dp l 0 R (181 + 6 * l) ||| nI 1) = crackL fr sk u dp l 0 R := by
  funext j
  simp only [upd]
  by_cases e : j = 181 + 6 * l
  · subst e
    rw [if_pos rfl]
    have e1 : (181 + 6 * l - 181) = 6 * l := by omega
    have e2 : (6 * l) % 6 = 0 := by omega
    have e3 : (6 * l) / 6 = l := by omega
    simp only [crackR, crackL, e1, e2, e3]
    rw [if_neg (by omega), if_pos ⟨by omega, by omega, by omega, Or.inr ⟨trivial, Or.inl h⟩⟩]
  · rw [if_neg e]
    simp only [crackR, crackL]
    by_cases q : 181 ≤ j ∧ j < 325 ∧ (j - 181) % 6 < dp
    · by_cases q1 : (j - 181) / 6 < l
      · have q3 : ¬ (j - 181) / 6 = l := by omega
        simp [q, q1, q3]
      · by_cases q2 : (j - 181) / 6 = l
        · have hc : (j - 181) % 6 ≠ 0 := by omega
          have hcold : coldB fr (u (j - 181)) (R (37 + (j - 181))) ((j - 181) % 6) = false := by simp [coldB, hc]
          simp [q, q1, q2, hcold]
        · simp [q, q1, q2]
    · rw [if_neg (fun z => q ⟨z.1, z.2.1, z.2.2.1⟩), if_neg (fun z => q ⟨z.1, z.2.1, z.2.2.1⟩)]
theorem crackL_warm {fr : Bool} {sk : Int32} {u : Nat → Int32} {dp l : Nat} {R : Row} (h : coldB fr (u (6 * l)) (R (37 + 6 * l)) 0 = false) : crackR fr sk u dp l 0 R = crackL fr sk u dp l 0 R := by
  funext j
  simp only [crackR, crackL]
  by_cases q : 181 ≤ j ∧ j < 325 ∧ (j - 181) % 6 < dp
  · by_cases q1 : (j - 181) / 6 < l
    · have q3 : ¬ (j - 181) / 6 = l := by omega
      simp [q, q1, q3]
    · by_cases q2 : (j - 181) / 6 = l
      · have hcold : coldB fr (u (j - 181)) (R (37 + (j - 181))) ((j - 181) % 6) = false := by
          by_cases hc : (j - 181) % 6 = 0
          · rw [hc, show j - 181 = 6 * l by omega]; exact h
          · simp [coldB, hc]
        simp [q, q1, q2, hcold]
      · simp [q, q1, q2]
  · rw [if_neg (fun z => q ⟨z.1, z.2.1, z.2.2.1⟩), if_neg (fun z => q ⟨z.1, z.2.1, z.2.2.1⟩)]
theorem crackL_yes {fr : Bool} {sk : Int32} {u : Nat → Int32} {dp l c : Nat} {R : Row} (hc : c < dp) (hd : dp ≤ 6) (hl : l < 24) (h : shrB sk (u (6 * l + c)) (R (37 + (6 * l + c))) = true) : upd (crackL fr sk u dp l c R) (181 + (6 * l + c)) (crackL fr sk u dp l c R (181 + (6 * l + c)) ||| nI 1) = crackL fr sk u dp l (c + 1) R := by
  funext j
  simp only [upd]
  by_cases e : j = 181 + (6 * l + c)
  · subst e
    rw [if_pos rfl]
    have e1 : (181 + (6 * l + c) - 181) = 6 * l + c := by omega
    have e2 : (6 * l + c) % 6 = c := by omega
    have e3 : (6 * l + c) / 6 = l := by omega
    simp only [crackL, e1, e2, e3]
    rw [if_pos (c := _ ∧ _ ∧ _ ∧ (_ ∨ (_ ∧ (_ ∨ (c < c + 1 ∧ _))))) ⟨by omega, by omega, hc, Or.inr ⟨trivial, Or.inr ⟨by omega, h⟩⟩⟩]
    split
    · exact or1 _
    · rfl
  · rw [if_neg e]
    simp only [crackL]
    by_cases q : 181 ≤ j ∧ j < 325 ∧ (j - 181) % 6 < dp
    · by_cases q2 : (j - 181) / 6 = l
      · have e9 : ((j - 181) % 6 < c) = ((j - 181) % 6 < c + 1) := propext (by omega)
        simp [q, q2, e9]
      · simp [q, q2]
    · rw [if_neg (fun z => q ⟨z.1, z.2.1, z.2.2.1⟩), if_neg (fun z => q ⟨z.1, z.2.1, z.2.2.1⟩)]
theorem crackL_no {fr : Bool} {sk : Int32} {u : Nat → Int32} {dp l c : Nat} {R : Row} (h : shrB sk (u (6 * l + c)) (R (37 + (6 * l + c))) = false) : crackL fr sk u dp l c R = crackL fr sk u dp l (c + 1) R := by
  funext j
  simp only [crackL]
  by_cases q : 181 ≤ j ∧ j < 325 ∧ (j - 181) % 6 < dp
  · by_cases q2 : (j - 181) / 6 = l
    · by_cases q3 : (j - 181) % 6 = c
      · have e9 : j - 181 = 6 * l + c := by omega
        simp [q, q2, q3, e9, h]
      · have e9 : ((j - 181) % 6 < c) = ((j - 181) % 6 < c + 1) := propext (by omega)
        simp [q, q2, e9]
    · simp [q, q2]
  · rw [if_neg (fun z => q ⟨z.1, z.2.1, z.2.2.1⟩), if_neg (fun z => q ⟨z.1, z.2.1, z.2.2.1⟩)]
theorem crackL_row {fr : Bool} {sk : Int32} {u : Nat → Int32} {dp l c : Nat} {R : Row} (h : dp ≤ c ∨ ¬ nI 60 < sk) : crackL fr sk u dp l c R = crackR fr sk u dp (l + 1) 0 R := by
  funext j
  simp only [crackL, crackR]
  by_cases q : 181 ≤ j ∧ j < 325 ∧ (j - 181) % 6 < dp
  · by_cases q1 : (j - 181) / 6 < l
    · have q2 : (j - 181) / 6 < l + 1 := by omega
      have q3 : ¬ (j - 181) / 6 = l := by omega
      simp [q, q1, q2, q3]
    · by_cases q2 : (j - 181) / 6 = l
      · have e9 : ((j - 181) % 6 < c ∧ shrB sk (u (j - 181)) (R (37 + (j - 181))) = true) = (shrB sk (u (j - 181)) (R (37 + (j - 181))) = true) := propext ⟨fun z => z.2, fun z => by
          rcases h with h | h
          · exact ⟨by omega, z⟩
          · simp [shrB, h] at z⟩
        simp only [cracks_eq, Bool.or_eq_true]
        simp [q, q2, e9]
      · have q3 : ¬ (j - 181) / 6 < l + 1 := by omega
        simp [q, q1, q2, q3]
  · rw [if_neg (fun z => q ⟨z.1, z.2.1, z.2.2.1⟩), if_neg (fun z => q ⟨z.1, z.2.1, z.2.2.1⟩)]
theorem mx180 (a v : Int32) : nI 180 ≤ mx a v ↔ nI 180 ≤ a ∨ nI 180 ≤ v := by
  simp only [mx, Int32.le_iff_toInt_le, Int32.lt_iff_toInt_lt]
  split <;> omega
theorem t_crackAll (hA : WA Sh N w yd) (hT : TA Sh N t yd) (hdis : t + 3 ≤ w ∨ w + 4 ≤ t) (fr : Bool) (dp mn : Nat) (hW : WF R dp mn) : Con E mX9_crackAll 2 0 0 [.ref t, .ref w, .int (bI fr)] Sh N G (wset M w R) (P1 none Sh N (wset M w (crackR fr (M yd 7) (M (t + 1)) dp mn 0 R))) nox := by
  obtain ⟨w0, w1, w2, w3, w4⟩ := hW
  have hA' := hA
  obtain ⟨a0, a1, a2, a3, ⟨b0, b1, b2, b3⟩, a5⟩ := hA
  obtain ⟨t0, t1, t2, t3⟩ := hT
  have hb1 : ∀ R' : Row, wset M w R' (t + 1) = M (t + 1) := fun R' => wset_cell M R' (by omega)
  refine Con.ofQ (by decide +kernel) (by simp [Value.category]) (Nat.le_of_ble_eq_true rfl) (fun k C0 Q hQ => ?_)
  have C : CK k E mX9_crackAll kdX9_crackAll 2 0 0 := ⟨C0, kdX9_crackAll_ok⟩
  have inner : ∀ (l : Nat), l < mn → (∀ v6 : Option Value, PT k E Q 0 0 Sh N G (wset M w (crackR fr (M yd 7) (M (t + 1)) dp (l + 1) 0 R)) 128 [some (.ref t), some (.ref w), some (.int (bI fr)), some (.int (bI (decide (nI 60 < M yd 7)))), some (.int (nI l)), some (.int (nI (6 * l))), v6] []) → ∀ n c : Nat, c ≤ dp → dp - c < n → PT k E Q 0 0 Sh N G (wset M w (crackL fr (M yd 7) (M (t + 1)) dp l c R)) 74 [some (.ref t), some (.ref w), some (.int (bI fr)), some (.int (bI (decide (nI 60 < M yd 7)))), some (.int (nI l)), some (.int (nI (6 * l))), some (.int (nI (6 * l + c)))] [] := by
    intro l hl kk
    intro n
    induction n with
    | zero => intro i _ h; omega
    | succ n ih =>
      intro c hc hn
      refine r_iload_n C 3 rfl rfl rfl ?_
      refine r_if_eq C 128 rfl (by decide) (fun h => ?_) (fun h => ?_)
      · have h := of_decide_eq_false (bI_0 h)
        rw [crackL_row (Or.inr h)]
        exact kk _
      have hsk := of_decide_eq_true (bI_1 h)
      refine r_iload C rfl rfl ?_
      refine r_iload C rfl rfl ?_
      refine r_aload_n C 1 rfl rfl rfl rfl ?_
      refine r_geti C rfl f_X9_77 (by assumption) rfl ?_
      refine r_top _ (wg_4 _ _ _) ?_
      refine r_top (nI dp) (by rw [crackL_lo (by decide)]; exact w0) ?_
      refine r_iadd C rfl ?_
      refine r_top (nI (6 * l + dp)) (by rw [nI_add]) ?_
      refine r_icmp_ge C 128 rfl (by decide) (fun h => ?_) (fun h => ?_)
      · have h := le_nI (by omega) (by omega) h
        rw [crackL_row (Or.inl (by omega))]
        exact kk _
      have h := nle_nI (by omega) (by omega) h
      have k122 : ∀ R4 : Row, R4 = crackL fr (M yd 7) (M (t + 1)) dp l (c + 1) R → PT k E Q 0 0 Sh N G (wset M w R4) 122 [some (.ref t), some (.ref w), some (.int (bI fr)), some (.int (bI (decide (nI 60 < M yd 7)))), some (.int (nI l)), some (.int (nI (6 * l))), some (.int (nI (6 * l + c)))] [] := by
        intro R4 hR4
        subst hR4
        refine r_iinc (c := nI 1) C rfl rfl (by decide) ?_
        refine r_goto C 74 rfl (by decide) ?_
        refine r_eqL ?_ (ih (c + 1) (by omega) (by omega))
        rw [show 6 * l + (c + 1) = 6 * l + c + 1 by omega]
        first | rfl | (simp only [sm, add3, nI_add, Int32.add_zero, Int32.zero_add]; rfl)
      refine r_aload_n C 0 rfl rfl rfl rfl ?_
      refine r_getv C rfl f_X9_9 (by assumption) rfl ?_
      refine r_iload C rfl rfl ?_
      refine r_iald C rfl (by assumption) (6 * l + c) rfl (by omega) (by decide) ?_
      refine r_si (v := nI 150) C rfl (by decide) ?_
      rw [hb1]
      refine r_icmp_lt C 122 rfl (by decide) (fun h2 => ?_) (fun h2 => ?_)
      · exact k122 _ (crackL_no (by simp only [shrB]; rw [decide_eq_false (fun q : nI 150 ≤ _ => absurd h2 (Int32.not_lt.mpr q)), Bool.and_false, Bool.false_and]))
      refine r_aload_n C 1 rfl rfl rfl rfl ?_
      refine r_getv C rfl f_X9_42 (by assumption) rfl ?_
      refine r_iload C rfl rfl ?_
      refine r_iald C rfl (by assumption) (6 * l + c) rfl (by omega) (by decide) ?_
      refine r_top _ (wg_w _ _ _ (by omega)) ?_
      refine r_top (R (37 + (6 * l + c))) (crackL_lo (by omega)) ?_
      refine r_si (v := nI 150) C rfl (by decide) ?_
      refine r_icmp_ge C 122 rfl (by decide) (fun h3 => ?_) (fun h3 => ?_)
      · exact k122 _ (crackL_no (by simp only [shrB]; rw [decide_eq_false (Int32.not_lt.mpr h3), Bool.and_false]))
      refine r_aload_n C 1 rfl rfl rfl rfl ?_
      refine r_iload C rfl rfl ?_
      refine v1_v C rfl mfX8_crack lk_X9_113 (by assumption) (w_crack hA' (6 * l + c) rfl (by omega)) ?_
      exact k122 _ (crackL_yes (by omega) w2 (by omega) (by simp only [shrB]; rw [decide_eq_true hsk, decide_eq_true (Int32.not_lt.mp h2), decide_eq_true (Int32.not_le.mp h3)]; rfl))
  have loop : ∀ n i : Nat, i ≤ mn → mn - i < n → ∀ v5 v6 : Option Value, PT k E Q 0 0 Sh N G (wset M w (crackR fr (M yd 7) (M (t + 1)) dp i 0 R)) 21 [some (.ref t), some (.ref w), some (.int (bI fr)), some (.int (bI (decide (nI 60 < M yd 7)))), some (.int (nI i)), v5, v6] [] := by
    intro n
    induction n with
    | zero => intro i _ h; omega
    | succ n ih =>
      intro i hi hn v5 v6
      refine r_iload C rfl rfl ?_
      refine r_aload_n C 1 rfl rfl rfl rfl ?_
      refine r_geti C rfl f_X9_45 (by assumption) rfl ?_
      refine r_top _ (wg_5 _ _ _) ?_
      refine r_top (nI mn) ((crack_lo _ _ _ _ _ _ _ (by decide)).trans w3) ?_
      refine r_icmp_ge C 134 rfl (by decide) (fun h => ?_) (fun h => ?_)
      · have h := le_nI (by omega) (by omega) h
        have e : i = mn := by omega
        subst e
        exact q_vret C hQ rfl rfl ⟨rfl, rfl, rfl, rfl⟩
      have h := nle_nI (by omega) (by omega) h
      refine r_iload C rfl rfl ?_
      refine r_bi (v := nI 6) C rfl (by decide) ?_
      refine r_imul C rfl ?_
      refine r_top (nI (6 * i)) (by rw [pk_mul, Nat.mul_comm]) ?_
      have k70 : ∀ R4 : Row, R4 = crackL fr (M yd 7) (M (t + 1)) dp i 0 R → PT k E Q 0 0 Sh N G (wset M w R4) 70 [some (.ref t), some (.ref w), some (.int (bI fr)), some (.int (bI (decide (nI 60 < M yd 7)))), some (.int (nI i)), some (.int (nI (6 * i))), v6] [] := by
        intro R4 hR4
        subst hR4
        refine r_iload C rfl rfl ?_
        refine r_istore C rfl (by exact Nat.le_of_ble_eq_true rfl) ?_
        refine r_eqL ?_ (inner i h (fun v6 => ?_) (dp + 1) 0 (by omega) (by omega))
        · first | rfl | (simp only [sm, add3, nI_add, Int32.add_zero, Int32.zero_add]; rfl)
        refine r_iinc (c := nI 1) C rfl rfl (by decide) ?_
        refine r_goto C 21 rfl (by decide) ?_
        refine r_eqL ?_ (ih (i + 1) (by omega) (by omega) (some (.int (nI (6 * i)))) v6)
        first | rfl | (simp only [sm, add3, nI_add, Int32.add_zero, Int32.zero_add]; rfl)
      refine r_istore C rfl (by exact Nat.le_of_ble_eq_true rfl) ?_
      refine r_iload_n C 2 rfl rfl rfl ?_
      refine r_if_eq C 70 rfl (by decide) (fun h2 => ?_) (fun h2 => ?_)
      · refine r_eqL ?_ (k70 _ (crackL_warm (by simp only [coldB]; rw [bI_0 h2]; rfl)))
        first | rfl | (simp only [sm, add3, nI_add, Int32.add_zero, Int32.zero_add]; rfl)
      have h2 := bI_1 h2
      refine r_aload_n C 0 rfl rfl rfl rfl ?_
      refine r_getv C rfl f_X9_9 (by assumption) rfl ?_
      refine r_iload C rfl rfl ?_
      refine r_iald C rfl (by assumption) (6 * i) rfl (by omega) (by decide) ?_
      refine r_aload_n C 1 rfl rfl rfl rfl ?_
      refine r_getv C rfl f_X9_42 (by assumption) rfl ?_
      refine r_iload C rfl rfl ?_
      refine r_iald C rfl (by assumption) (6 * i) rfl (by omega) (by decide) ?_
      refine r_top _ (wg_w _ _ _ (by omega)) ?_
      refine r_top (R (37 + 6 * i)) (crack_lo _ _ _ _ _ _ _ (by omega)) ?_
      rw [hb1]
      refine r_max C rfl lk_X9_97 ?_
      refine r_si (v := nI 180) C rfl (by decide) ?_
      refine r_icmp_lt C 70 rfl (by decide) (fun h3 => ?_) (fun h3 => ?_)
      · refine r_eqL ?_ (k70 _ (crackL_warm ?_))
        · first | rfl | (simp only [sm, add3, nI_add, Int32.add_zero, Int32.zero_add]; rfl)
        · have h4 := mt (mx180 _ _).mpr (Int32.not_le.mpr h3)
          simp only [coldB]
          rw [decide_eq_false (fun q => h4 (Or.inl q)), decide_eq_false (fun q => h4 (Or.inr q)), Bool.or_false, Bool.and_false]
      · have h4 := (mx180 _ _).mp (Int32.not_lt.mp h3)
        refine r_aload_n C 1 rfl rfl rfl rfl ?_
        refine r_iload C rfl rfl ?_
        refine v1_v C rfl mfX8_crack lk_X9_113 (by assumption) (w_crack hA' (6 * i) rfl (by omega)) ?_
        refine r_eqL ?_ (k70 _ (crackL_cold w1 (by omega) ?_))
        · first | rfl | (simp only [sm, add3, nI_add, Int32.add_zero, Int32.zero_add]; rfl)
        · simp only [coldB]
          rw [h2]
          rcases h4 with h4 | h4
          · rw [decide_eq_true h4]; rfl
          · rw [decide_eq_true h4, Bool.or_true]; rfl
  have k17 : ∀ z : Int32, z = bI (decide (nI 60 < M yd 7)) → PT k E Q 0 0 Sh N G (wset M w R) 17 [some (.ref t), some (.ref w), some (.int (bI fr)), none, none, none, none] [.int z] := by
    intro z hz
    subst hz
    refine r_istore_n C 3 rfl rfl (by exact Nat.le_of_ble_eq_true rfl) ?_
    refine r_ic (v := nI 0) C rfl (by decide) ?_
    refine r_istore C rfl (by exact Nat.le_of_ble_eq_true rfl) ?_
    refine r_eqM ?_ (loop (mn + 1) 0 (by omega) (by omega) none none)
    rw [crack_0]
  refine r_aload_n C 0 rfl rfl rfl rfl ?_
  refine r_getv C rfl f_X9_18 (by assumption) rfl ?_
  refine r_geti C rfl f_X9_110 (by assumption) rfl ?_
  refine r_top _ (wset_lo _ _ (by omega)) ?_
  refine r_bi (v := nI 60) C rfl (by decide) ?_
  refine r_icmp_le C 16 rfl (by decide) (fun h => ?_) (fun h => ?_)
  · refine r_ic (v := nI 0) C rfl (by decide) ?_
    exact k17 _ (by rw [decide_eq_false (Int32.not_lt.mpr h)]; rfl)
  · refine r_ic (v := nI 1) C rfl (by decide) ?_
    refine r_goto C 17 rfl (by decide) ?_
    exact k17 _ (by rw [decide_eq_true (Int32.not_le.mp h)]; rfl)
end WEATHER3
