section WEATHER
def taFl (t yd : Nat) : List (Option Value) := [some (.ref yd), some (.ref (t + 1)), some (.ref (t + 2))]
/-- the weather at t, of the yard at yd -/
def TA (Sh : Nat → SE) (N t yd : Nat) : Prop := At Sh N t (.inr (9, taFl t yd)) ∧ At Sh N (t + 1) (arE 0 144) ∧ At Sh N (t + 2) (arE 0 144) ∧ yd + 4 ≤ t
variable {E : VE} {Sh : Nat → SE} {N : Nat} {G : Bool} {M : MM} {w yd t : Nat} {R : Row}
theorem t_wet (hA : WA Sh N w yd) (hT : TA Sh N t yd) {dr : Int32} (dp mn sh : Nat) (hW : WF R dp mn) (hsh : R 3 = nI sh) (hs9 : sh ≤ 9) : Con E mX9_wet 2 0 0 [.ref t, .ref w, .int dr] Sh N G (wset M w R) (P1 none Sh N (wset M w (if mn = 0 then R else comeR dp mn dr R))) nox := by
  obtain ⟨w0, w1, w2, w3, w4⟩ := hW
  have hA' := hA
  obtain ⟨a0, a1, a2, a3, a4, a5⟩ := hA
  obtain ⟨t0, t1, t2, t3⟩ := hT
  refine Con.ofQ (by decide +kernel) (by simp [Value.category]) (Nat.le_of_ble_eq_true rfl) (fun k C0 Q hQ => ?_)
  have C : CK k E mX9_wet kdX9_wet 2 0 0 := ⟨C0, kdX9_wet_ok⟩
  have hbare : bare R mn = min (3 - sh) mn := by rw [bare, hsh, nI_clamp (by omega)]
  refine r_aload_n C 1 rfl rfl rfl rfl ?_
  refine r_geti C rfl f_X9_45 (by assumption) rfl ?_
  refine r_top _ (wg_5 _ _ _) ?_
  refine r_top (nI mn) w3 ?_
  refine r_if_ne C 8 rfl (by decide) (fun hm => ?_) (fun hm => ?_)
  rotate_left
  · have hm : mn = 0 := (nI_eq (b := 0) (by omega) (by omega)).mp hm
    exact q_vret C hQ rfl rfl ⟨rfl, rfl, rfl, by rw [if_pos hm]⟩
  have hm : 1 ≤ mn := by
    rcases Nat.eq_zero_or_pos mn with q | q
    · subst q; exact absurd rfl hm
    · exact q
  have loop3 : ∀ R2 : Row, R2 0 = nI dp → ∀ tv : Int32, (PT k E Q 0 0 Sh N G (wset M w (it (fun c => wetS c (R 2 * mx 0 (nI 3 - R 3) / nI 3)) dp R2)) 149 [some (.ref t), some (.ref w), some (.int dr), some (.int (nI (6 * (mn - 1)))), some (.int tv), some (.int (R 2 * mx 0 (nI 3 - R 3) / nI 3)), some (.int (nI dp))] []) → ∀ n c : Nat, c ≤ dp → dp - c < n → PT k E Q 0 0 Sh N G (wset M w (it (fun c => wetS c (R 2 * mx 0 (nI 3 - R 3) / nI 3)) c R2)) 126 [some (.ref t), some (.ref w), some (.int dr), some (.int (nI (6 * (mn - 1)))), some (.int tv), some (.int (R 2 * mx 0 (nI 3 - R 3) / nI 3)), some (.int (nI c))] [] := by
    intro R2 h0 tv kk
    intro n
    induction n with
    | zero => intro i _ h; omega
    | succ n ih =>
      intro c hc hn
      have hk0 := (it_keep (fun i R' => wetS_keep i (R 2 * mx 0 (nI 3 - R 3) / nI 3) R' (j := 0) (by decide) (by decide)) c R2).trans h0
      refine r_iload C rfl rfl ?_
      refine r_aload_n C 1 rfl rfl rfl rfl ?_
      refine r_geti C rfl f_X9_77 (by assumption) rfl ?_
      refine r_top _ (wg_4 _ _ _) ?_
      refine r_top (nI dp) hk0 ?_
      refine r_icmp_ge C 149 rfl (by decide) (fun h => ?_) (fun h => ?_)
      · have h := le_nI (by omega) (by omega) h
        have e : c = dp := by omega
        subst e
        exact kk
      · have h := nle_nI (by omega) (by omega) h
        refine r_aload_n C 1 rfl rfl rfl rfl ?_
        refine r_iload C rfl rfl ?_
        refine r_iload C rfl rfl ?_
        refine v2_v C rfl mfX8_pour lk_X9_84 (by assumption) (w_pour hA' c rfl (by omega)) ?_
        refine r_iinc (c := nI 1) C rfl rfl (by decide) ?_
        refine r_goto C 126 rfl (by decide) ?_
        refine r_eqM ?_ (r_eqL ?_ (ih (c + 1) (by omega) (by omega)))
        · rw [it]
        · first | rfl | (simp only [sm, add3, nI_add, Int32.add_zero, Int32.zero_add]; rfl)
  have loop2 : ∀ R1 : Row, R1 3 = R 3 → R1 1 = nI mn → (∀ v5 v6 : Option Value, PT k E Q 0 0 Sh N G (wset M w (it (fun l => wetS (6 * l) (dr * R 5 / nI 200)) (bare R mn) R1)) 104 [some (.ref t), some (.ref w), some (.int dr), some (.int (nI (6 * (mn - 1)))), some (.int (dr * R 5 / nI 200)), v5, v6] []) → ∀ n i : Nat, i ≤ bare R mn → bare R mn - i < n → ∀ v6 : Option Value, PT k E Q 0 0 Sh N G (wset M w (it (fun l => wetS (6 * l) (dr * R 5 / nI 200)) i R1)) 67 [some (.ref t), some (.ref w), some (.int dr), some (.int (nI (6 * (mn - 1)))), some (.int (dr * R 5 / nI 200)), some (.int (nI i)), v6] [] := by
    intro R1 h3 h1 kk
    rw [hbare] at kk ⊢
    intro n
    induction n with
    | zero => intro i _ h; omega
    | succ n ih =>
      intro c hc hn v6
      have hk3 := (it_keep (fun i R' => wetS_keep (6 * i) (dr * R 5 / nI 200) R' (j := 3) (by decide) (by decide)) c R1).trans (h3.trans hsh)
      have hk1 := (it_keep (fun i R' => wetS_keep (6 * i) (dr * R 5 / nI 200) R' (j := 1) (by decide) (by decide)) c R1).trans h1
      refine r_iload C rfl rfl ?_
      refine r_ic (v := nI 3) C rfl (by decide) ?_
      refine r_aload_n C 1 rfl rfl rfl rfl ?_
      refine r_geti C rfl f_X9_91 (by assumption) rfl ?_
      refine r_top _ (wg_7 _ _ _) ?_
      refine r_top (nI sh) hk3 ?_
      refine r_isub C rfl ?_
      refine r_icmp_ge C 104 rfl (by decide) (fun h => ?_) (fun h => ?_)
      · have h := (bare_le hs9 (by omega)).mp h
        have e : c = min (3 - sh) mn := by omega
        rw [e]
        exact kk _ _
      have h := mt (bare_le hs9 (l := c) (by omega)).mpr h
      refine r_iload C rfl rfl ?_
      refine r_aload_n C 1 rfl rfl rfl rfl ?_
      refine r_geti C rfl f_X9_45 (by assumption) rfl ?_
      refine r_top _ (wg_5 _ _ _) ?_
      refine r_top (nI mn) hk1 ?_
      refine r_icmp_ge C 104 rfl (by decide) (fun h2 => ?_) (fun h2 => ?_)
      · have h2 := le_nI (by omega) (by omega) h2
        have e : c = min (3 - sh) mn := by omega
        rw [e]
        exact kk _ _
      · have h2 := nle_nI (by omega) (by omega) h2
        refine r_aload_n C 1 rfl rfl rfl rfl ?_
        refine r_iload C rfl rfl ?_
        refine r_bi (v := nI 6) C rfl (by decide) ?_
        refine r_imul C rfl ?_
        refine r_iload C rfl rfl ?_
        refine v2_v C rfl mfX8_pour lk_X9_84 (by assumption) (w_pour hA' (6 * c) (by rw [pk_mul, Nat.mul_comm]) (by omega)) ?_
        refine r_iinc (c := nI 1) C rfl rfl (by decide) ?_
        refine r_goto C 67 rfl (by decide) ?_
        refine r_eqM ?_ (r_eqL ?_ (ih (c + 1) (by omega) (by omega) v6))
        · rw [it]
        · first | rfl | (simp only [sm, add3, nI_add, Int32.add_zero, Int32.zero_add]; rfl)
  have k52 : ∀ R1 : Row, R1 = (if R 4 = 0 then it (fun c => wetS (6 * (mn - 1) + c) dr) dp R else R) → ∀ v4 v5 v6 : Option Value, PT k E Q 0 0 Sh N G (wset M w R1) 52 [some (.ref t), some (.ref w), some (.int dr), some (.int (nI (6 * (mn - 1)))), v4, v5, v6] [] := by
    intro R1 hR1 v4 v5 v6
    have hk : ∀ j, j < 37 → j ≠ 11 → R1 j = R j := by
      intro j h1 h2
      rw [hR1]
      split
      · exact it_keep (fun i R' => wetS_keep (6 * (mn - 1) + i) dr R' h1 h2) dp R
      · rfl
    refine r_iload_n C 2 rfl rfl rfl ?_
    refine r_aload_n C 1 rfl rfl rfl rfl ?_
    refine r_geti C rfl f_X9_88 (by assumption) rfl ?_
    refine r_top _ (wg_9 _ _ _) ?_
    refine r_top (R 5) (hk 5 (by decide) (by decide)) ?_
    refine r_imul C rfl ?_
    refine r_si (v := nI 200) C rfl (by decide) ?_
    refine r_idiv C rfl (by decide) ?_
    refine r_istore C rfl (by exact Nat.le_of_ble_eq_true rfl) ?_
    refine r_ic (v := nI 0) C rfl (by decide) ?_
    refine r_istore C rfl (by exact Nat.le_of_ble_eq_true rfl) ?_
    refine r_eqL ?_ (loop2 R1 (hk 3 (by decide) (by decide)) ((hk 1 (by decide) (by decide)).trans w3) (fun v5 v6 => ?_) (bare R mn + 1) 0 (by omega) (by omega) v6)
    · first | rfl | (simp only [sm, add3, nI_add, Int32.add_zero, Int32.zero_add]; rfl)
    have hX := fun j h1 h2 => (it_keep (fun i R' => wetS_keep (6 * i) (dr * R 5 / nI 200) R' (j := j) h1 h2) (bare R mn) R1).trans (hk j h1 h2)
    obtain ⟨X, hXe⟩ : ∃ X, X = it (fun l => wetS (6 * l) (dr * R 5 / nI 200)) (bare R mn) R1 := ⟨_, rfl⟩
    rw [← hXe] at hX ⊢
    refine r_aload_n C 1 rfl rfl rfl rfl ?_
    refine r_geti C rfl f_X9_94 (by assumption) rfl ?_
    refine r_top _ (wg_6 _ _ _) ?_
    refine r_top (R 2) (hX 2 (by decide) (by decide)) ?_
    refine r_ic (v := nI 0) C rfl (by decide) ?_
    refine r_ic (v := nI 3) C rfl (by decide) ?_
    refine r_aload_n C 1 rfl rfl rfl rfl ?_
    refine r_geti C rfl f_X9_91 (by assumption) rfl ?_
    refine r_top _ (wg_7 _ _ _) ?_
    refine r_top (R 3) (hX 3 (by decide) (by decide)) ?_
    refine r_isub C rfl ?_
    refine r_max C rfl lk_X9_97 ?_
    refine r_imul C rfl ?_
    refine r_ic (v := nI 3) C rfl (by decide) ?_
    refine r_idiv C rfl (by decide) ?_
    refine r_istore C rfl (by exact Nat.le_of_ble_eq_true rfl) ?_
    refine r_ic (v := nI 0) C rfl (by decide) ?_
    refine r_istore C rfl (by exact Nat.le_of_ble_eq_true rfl) ?_
    refine r_eqL ?_ (loop3 X ((hX 0 (by decide) (by decide)).trans w0) (dr * R 5 / nI 200) ?_ (dp + 1) 0 (by omega) (by omega))
    · first | rfl | (simp only [sm, add3, nI_add, Int32.add_zero, Int32.zero_add]; rfl)
    exact q_vret C hQ rfl rfl ⟨rfl, rfl, rfl, by rw [if_neg (by omega), comeR, ← hR1, ← hXe]⟩
  have loop1 : R 4 = 0 → ∀ n c : Nat, c ≤ dp → dp - c < n → ∀ v5 v6 : Option Value, PT k E Q 0 0 Sh N G (wset M w (it (fun c => wetS (6 * (mn - 1) + c) dr) c R)) 21 [some (.ref t), some (.ref w), some (.int dr), some (.int (nI (6 * (mn - 1)))), some (.int (nI c)), v5, v6] [] := by
    intro h4
    intro n
    induction n with
    | zero => intro i _ h; omega
    | succ n ih =>
      intro c hc hn v5 v6
      have hk4 := (it_keep (fun i R' => wetS_keep (6 * (mn - 1) + i) dr R' (j := 4) (by decide) (by decide)) c R).trans h4
      have hk0 := (it_keep (fun i R' => wetS_keep (6 * (mn - 1) + i) dr R' (j := 0) (by decide) (by decide)) c R).trans w0
      refine r_iload C rfl rfl ?_
      refine r_aload_n C 1 rfl rfl rfl rfl ?_
      refine r_geti C rfl f_X9_77 (by assumption) rfl ?_
      refine r_top _ (wg_4 _ _ _) ?_
      refine r_top (nI dp) hk0 ?_
      refine r_icmp_ge C 52 rfl (by decide) (fun h => ?_) (fun h => ?_)
      · have h := le_nI (by omega) (by omega) h
        have e : c = dp := by omega
        subst e
        exact k52 _ (by rw [if_pos h4]) _ _ _
      have h := nle_nI (by omega) (by omega) h
      refine r_aload_n C 1 rfl rfl rfl rfl ?_
      refine r_geti C rfl f_X9_80 (by assumption) rfl ?_
      refine r_top _ (wg_8 _ _ _) ?_
      refine r_top 0 hk4 ?_
      refine r_if_ne C 52 rfl (by decide) (fun h2 => absurd rfl h2) (fun h2 => ?_)
      refine r_aload_n C 1 rfl rfl rfl rfl ?_
      refine r_iload_n C 3 rfl rfl rfl ?_
      refine r_iload C rfl rfl ?_
      refine r_iadd C rfl ?_
      refine r_iload_n C 2 rfl rfl rfl ?_
      refine v2_v C rfl mfX8_pour lk_X9_84 (by assumption) (w_pour hA' (6 * (mn - 1) + c) (by rw [nI_add]) (by omega)) ?_
      refine r_iinc (c := nI 1) C rfl rfl (by decide) ?_
      refine r_goto C 21 rfl (by decide) ?_
      refine r_eqM ?_ (r_eqL ?_ (ih (c + 1) (by omega) (by omega) v5 v6))
      · rw [it]
      · first | rfl | (simp only [sm, add3, nI_add, Int32.add_zero, Int32.zero_add]; rfl)
  refine r_aload_n C 1 rfl rfl rfl rfl ?_
  refine r_geti C rfl f_X9_45 (by assumption) rfl ?_
  refine r_top _ (wg_5 _ _ _) ?_
  refine r_top (nI mn) w3 ?_
  refine r_ic (v := nI 1) C rfl (by decide) ?_
  refine r_isub C rfl ?_
  refine r_bi (v := nI 6) C rfl (by decide) ?_
  refine r_imul C rfl ?_
  refine r_top (nI (6 * (mn - 1))) (by rw [pk_sub hm, pk_mul, Nat.mul_comm]) ?_
  refine r_istore_n C 3 rfl rfl (by exact Nat.le_of_ble_eq_true rfl) ?_
  refine r_ic (v := nI 0) C rfl (by decide) ?_
  refine r_istore C rfl (by exact Nat.le_of_ble_eq_true rfl) ?_
  by_cases h4 : R 4 = 0
  · refine r_eqL ?_ (loop1 h4 (dp + 1) 0 (by omega) (by omega) none none)
    first | rfl | (simp only [sm, add3, nI_add, Int32.add_zero, Int32.zero_add]; rfl)
  · refine r_iload C rfl rfl ?_
    refine r_aload_n C 1 rfl rfl rfl rfl ?_
    refine r_geti C rfl f_X9_77 (by assumption) rfl ?_
    refine r_top _ (wg_4 _ _ _) ?_
    refine r_top (nI dp) w0 ?_
    refine r_icmp_ge C 52 rfl (by decide) (fun h => ?_) (fun h => ?_)
    · have h := le_nI (a := dp) (b := 0) (by omega) (by omega) h
      omega
    refine r_aload_n C 1 rfl rfl rfl rfl ?_
    refine r_geti C rfl f_X9_80 (by assumption) rfl ?_
    refine r_top _ (wg_8 _ _ _) ?_
    refine r_if_ne C 52 rfl (by decide) (fun h2 => ?_) (fun h2 => absurd h2 h4)
    refine r_eqL ?_ (k52 R (by rw [if_neg h4]) (some (.int (nI 0))) none none)
    first | rfl | (simp only [sm, add3, nI_add, Int32.add_zero, Int32.zero_add]; rfl)
theorem t_flow (hA : WA Sh N w yd) (hT : TA Sh N t yd) (hdis : t + 3 ≤ w ∨ w + 4 ≤ t) {y z q : Int32} (a b : Nat) (hy : y = nI a) (hz : z = nI b) (ha : a < 144) (hb : b < 144) (hq : 0 < q) : Con E mX9_flow 1 0 0 [.ref t, .ref w, .int y, .int z, .int q] Sh N G (wset M w R) (P1 none Sh N (wset M w (flowS (M (t + 2)) a b q R))) nox := by
  subst hy; subst hz
  obtain ⟨a0, a1, a2, a3, a4, a5⟩ := hA
  obtain ⟨t0, t1, t2, t3⟩ := hT
  have hb2 : ∀ R' : Row, wset M w R' (t + 2) = M (t + 2) := fun R' => wset_cell M R' (by omega)
  refine Con.ofQ (by decide +kernel) (by simp [Value.category]) (Nat.le_of_ble_eq_true rfl) (fun k C0 Q hQ => ?_)
  have C : CK k E mX9_flow kdX9_flow 1 0 0 := ⟨C0, kdX9_flow_ok⟩
  refine r_iload C rfl rfl ?_
  refine r_if_gt C 6 rfl (by decide) (fun h => ?_) (fun h => absurd hq h)
  refine r_aload_n C 0 rfl rfl rfl rfl ?_
  refine r_getv C rfl f_X9_15 (by assumption) rfl ?_
  refine r_iload_n C 2 rfl rfl rfl ?_
  refine r_iald C rfl (by assumption) (a) rfl ha (by decide) ?_
  refine r_aload_n C 0 rfl rfl rfl rfl ?_
  refine r_getv C rfl f_X9_15 (by assumption) rfl ?_
  refine r_iload_n C 3 rfl rfl rfl ?_
  refine r_iald C rfl (by assumption) (b) rfl hb (by decide) ?_
  refine r_isub C rfl ?_
  refine r_iload C rfl rfl ?_
  refine r_idiv C rfl (fun e => by rw [e] at hq; exact absurd hq (by decide)) ?_
  refine r_istore C rfl (by exact Nat.le_of_ble_eq_true rfl) ?_
  refine r_aload_n C 1 rfl rfl rfl rfl ?_
  refine r_getv C rfl f_X9_42 (by assumption) rfl ?_
  refine r_iload_n C 2 rfl rfl rfl ?_
  refine r_dup2 C rfl rfl rfl ?_
  refine r_iald C rfl (by assumption) (a) rfl ha (by decide) ?_
  refine r_top _ (wg_w _ _ _ ha) ?_
  refine r_iload C rfl rfl ?_
  refine r_isub C rfl ?_
  refine r_iast C rfl (by assumption) (a) rfl ha (by decide) ?_
  refine r_eqM (wp_w _ _ _ _ ha) ?_
  refine r_aload_n C 1 rfl rfl rfl rfl ?_
  refine r_getv C rfl f_X9_42 (by assumption) rfl ?_
  refine r_iload_n C 3 rfl rfl rfl ?_
  refine r_dup2 C rfl rfl rfl ?_
  refine r_iald C rfl (by assumption) (b) rfl hb (by decide) ?_
  refine r_top _ (wg_w _ _ _ hb) ?_
  refine r_iload C rfl rfl ?_
  refine r_iadd C rfl ?_
  refine r_iast C rfl (by assumption) (b) rfl hb (by decide) ?_
  refine r_eqM (wp_w _ _ _ _ hb) ?_
  refine q_vret C hQ rfl rfl ⟨rfl, rfl, rfl, ?_⟩
  rw [hb2]
  rfl
end WEATHER
