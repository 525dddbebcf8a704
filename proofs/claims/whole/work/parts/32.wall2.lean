section WALL2
variable {E : VE} {Sh : Nat → SE} {N : Nat} {G : Bool} {M : MM} {w yd : Nat} {R : Row}
theorem w_waterFrom (hA : WA Sh N w yd) {x : Int32} (dp mn l : Nat) (hW : WF R dp mn) (hx : x = nI l) (hl : l ≤ mn) : Con E mX8_waterFrom 1 0 0 [.ref w, .int x] Sh N G (wset M w R) (P1 (some (.int (wat R dp l (mn - l)))) Sh N (wset M w R)) nox := by
  subst hx
  obtain ⟨w0, w1, w2, w3, w4⟩ := hW
  obtain ⟨a0, a1, a2, a3, a4, a5⟩ := hA
  refine Con.ofQ (by decide +kernel) (by simp [Value.category]) (Nat.le_of_ble_eq_true rfl) (fun k C0 Q hQ => ?_)
  have C : CK k E mX8_waterFrom kdX8_waterFrom 1 0 0 := ⟨C0, kdX8_waterFrom_ok⟩
  have inner : ∀ (i : Nat), l + i < mn → (∀ z : Int32, z = wat R dp l (i + 1) → ∀ v4 v5 : Option Value, PT k E Q 0 0 Sh N G (wset M w R) 54 [some (.ref w), some (.int (nI l)), some (.int z), some (.int (nI (l + i))), v4, v5] []) → ∀ n c : Nat, c ≤ dp → dp - c < n → PT k E Q 0 0 Sh N G (wset M w R) 26 [some (.ref w), some (.int (nI l)), some (.int (wat R dp l i + sm (fun c => R (37 + (6 * (l + i) + c))) c)), some (.int (nI (l + i))), some (.int (nI (6 * (l + i)))), some (.int (nI (6 * (l + i) + c)))] [] := by
    intro i hi kk
    intro n
    induction n with
    | zero => intro i _ h; omega
    | succ n ih =>
      intro c hc hn
      refine r_iload C rfl rfl ?_
      refine r_iload C rfl rfl ?_
      refine r_aload_n C 0 rfl rfl rfl rfl ?_
      refine r_geti C rfl f_X8_21 (by assumption) rfl ?_
      refine r_top _ (wg_4 _ _ _) ?_
      refine r_iadd C rfl ?_
      refine r_top (nI (6 * (l + i) + dp)) (by rw [w0, nI_add]) ?_
      refine r_icmp_ge C 54 rfl (by decide) (fun h => ?_) (fun h => ?_)
      · have h := le_nI (by omega) (by omega) h
        have e : c = dp := by omega
        subst e
        exact kk _ rfl _ _
      · have h := nle_nI (by omega) (by omega) h
        refine r_iload_n C 2 rfl rfl rfl ?_
        refine r_aload_n C 0 rfl rfl rfl rfl ?_
        refine r_getv C rfl f_X8_9 (by assumption) rfl ?_
        refine r_iload C rfl rfl ?_
        refine r_iald C rfl (by assumption) (6 * (l + i) + c) rfl (by omega) (by decide) ?_
        refine r_top _ (wg_w _ _ _ (by omega)) ?_
        refine r_iadd C rfl ?_
        refine r_istore_n C 2 rfl rfl (by exact Nat.le_of_ble_eq_true rfl) ?_
        refine r_iinc (c := nI 1) C rfl rfl (by decide) ?_
        refine r_goto C 26 rfl (by decide) ?_
        refine r_eqL ?_ (ih (c + 1) (by omega) (by omega))
        rw [show 6 * (l + i) + (c + 1) = 6 * (l + i) + c + 1 by omega]
        first | rfl | (simp only [sm, add3, nI_add, Int32.add_zero, Int32.zero_add]; rfl)
  have loop : ∀ n i : Nat, l + i ≤ mn → mn - (l + i) < n → ∀ v4 v5 : Option Value, PT k E Q 0 0 Sh N G (wset M w R) 4 [some (.ref w), some (.int (nI l)), some (.int (wat R dp l i)), some (.int (nI (l + i))), v4, v5] [] := by
    intro n
    induction n with
    | zero => intro i _ h; omega
    | succ n ih =>
      intro i hi hn v4 v5
      refine r_iload_n C 3 rfl rfl rfl ?_
      refine r_if_lt C 60 rfl (by decide) (fun h => absurd h (nI_pos (by omega))) (fun _ => ?_)
      refine r_iload_n C 3 rfl rfl rfl ?_
      refine r_aload_n C 0 rfl rfl rfl rfl ?_
      refine r_geti C rfl f_X8_62 (by assumption) rfl ?_
      refine r_top _ (wg_5 _ _ _) ?_
      refine r_top (nI mn) w3 ?_
      refine r_icmp_ge C 60 rfl (by decide) (fun h => ?_) (fun h => ?_)
      · have h := le_nI (by omega) (by omega) h
        refine r_iload_n C 2 rfl rfl rfl ?_
        exact q_iret C hQ rfl rfl rfl ⟨by rw [show mn - l = i by omega], rfl, rfl, rfl⟩
      · have h := nle_nI (by omega) (by omega) h
        refine r_iload_n C 3 rfl rfl rfl ?_
        refine r_bi (v := nI 6) C rfl (by decide) ?_
        refine r_imul C rfl ?_
        refine r_top (nI (6 * (l + i))) (by rw [pk_mul, Nat.mul_comm]) ?_
        refine r_istore C rfl (by exact Nat.le_of_ble_eq_true rfl) ?_
        refine r_iload C rfl rfl ?_
        refine r_istore C rfl (by exact Nat.le_of_ble_eq_true rfl) ?_
        refine r_eqL ?_ (inner i h (fun z hz v4 v5 => ?_) (dp + 1) 0 (by omega) (by omega))
        · first | rfl | (simp only [sm, add3, nI_add, Int32.add_zero, Int32.zero_add]; rfl)
        · subst hz
          refine r_iinc (c := nI 1) C rfl rfl (by decide) ?_
          refine r_goto C 4 rfl (by decide) ?_
          refine r_eqL ?_ (ih (i + 1) (by omega) (by omega) v4 v5)
          rw [show l + (i + 1) = l + i + 1 by omega]
          first | rfl | (simp only [sm, add3, nI_add, Int32.add_zero, Int32.zero_add]; rfl)
  refine r_ic (v := nI 0) C rfl (by decide) ?_
  refine r_istore_n C 2 rfl rfl (by exact Nat.le_of_ble_eq_true rfl) ?_
  refine r_iload_n C 1 rfl rfl rfl ?_
  refine r_istore_n C 3 rfl rfl (by exact Nat.le_of_ble_eq_true rfl) ?_
  exact loop (mn + 1) 0 (by omega) (by omega) none none
theorem w_dropFrom (hA : WA Sh N w yd) {x : Int32} (dp mn l : Nat) (hW : WF R dp mn) (hx : x = nI l) (hl : l < mn) : Con E mX8_dropFrom 2 0 0 [.ref w, .int x] Sh N G (wset M w R) (P1 none Sh N (wset M w (cutR dp mn l R))) nox := by
  subst hx
  have hW' := hW
  obtain ⟨w0, w1, w2, w3, w4⟩ := hW
  have hA' := hA
  obtain ⟨a0, a1, a2, a3, a4, a5⟩ := hA
  refine Con.ofQ (by decide +kernel) (by simp [Value.category]) (Nat.le_of_ble_eq_true rfl) (fun k C0 Q hQ => ?_)
  have C : CK k E mX8_dropFrom kdX8_dropFrom 2 0 0 := ⟨C0, kdX8_dropFrom_ok⟩
  refine r_iload_n C 1 rfl rfl rfl ?_
  refine r_if_lt C 31 rfl (by decide) (fun h => absurd h (nI_pos (by omega))) (fun _ => ?_)
  refine r_iload_n C 1 rfl rfl rfl ?_
  refine r_aload_n C 0 rfl rfl rfl rfl ?_
  refine r_geti C rfl f_X8_62 (by assumption) rfl ?_
  refine r_top _ (wg_5 _ _ _) ?_
  refine r_top (nI mn) w3 ?_
  refine r_icmp_ge C 31 rfl (by decide) (fun h => ?_) (fun h => ?_)
  · have h := le_nI (by omega) (by omega) h
    omega
  refine r_aload_n C 0 rfl rfl rfl rfl ?_
  refine r_dup C rfl rfl ?_
  refine r_geti C rfl f_X8_77 (by assumption) rfl ?_
  refine r_top _ (wg_16 _ _ _) ?_
  refine r_aload_n C 0 rfl rfl rfl rfl ?_
  refine r_iload_n C 1 rfl rfl rfl ?_
  refine v1_r C rfl mfX8_waterFrom lk_X8_86 (by assumption) (w_waterFrom hA' dp mn l hW' rfl (by omega)) ?_
  refine r_iadd C rfl ?_
  refine r_puti C rfl f_X8_77 (by assumption) rfl rfl rfl ?_
  refine r_eqM (wp_16 _ _ _ _) ?_
  refine r_aload_n C 0 rfl rfl rfl rfl ?_
  refine r_iload_n C 1 rfl rfl rfl ?_
  refine r_puti C rfl f_X8_62 (by assumption) rfl rfl rfl ?_
  refine r_eqM (wp_5 _ _ _ _) ?_
  refine q_vret C hQ rfl rfl ⟨rfl, rfl, rfl, ?_⟩
  congr 1
  funext j
  simp only [upd, cutR]
  grind
theorem w_whyGivesWay (hA : WA Sh N w yd) {x : Int32} (dp mn l : Nat) (hW : WF R dp mn) (hx : x = nI l) (hl : l < 24) : Con E mX8_whyGivesWay 1 0 0 [.ref w, .int x] Sh N G (wset M w R) (P1 (some (.int (whyR R dp l))) Sh N (wset M w R)) nox := by
  subst hx
  obtain ⟨w0, w1, w2, w3, w4⟩ := hW
  obtain ⟨a0, a1, a2, a3, a4, a5⟩ := hA
  refine Con.ofQ (by decide +kernel) (by simp [Value.category]) (Nat.le_of_ble_eq_true rfl) (fun k C0 Q hQ => ?_)
  have C : CK k E mX8_whyGivesWay kdX8_whyGivesWay 1 0 0 := ⟨C0, kdX8_whyGivesWay_ok⟩
  have loop : ∀ n c : Nat, c ≤ dp → dp - c < n → ∀ z : Int32, (¬ z &&& nI 2 = 0 ↔ anyB (fun c => decide (R (181 + (6 * l + c)) &&& nI 2 = nI 2)) c = true) → (¬ z &&& nI 1 = 0 ↔ anyB (fun c => decide (R (181 + (6 * l + c)) &&& nI 1 = nI 1)) c = true) → PT k E Q 0 0 Sh N G (wset M w R) 13 [some (.ref w), some (.int (nI l)), some (.int (nI (6 * l))), some (.int z), some (.int (bI (allB (fun c => decide (nI 180 ≤ R (37 + (6 * l + c)))) c))), some (.int (nI (6 * l + c)))] [] := by
    intro n
    induction n with
    | zero => intro i _ h; omega
    | succ n ih =>
      intro c hc hn z hz2 hz1
      refine r_iload C rfl rfl ?_
      refine r_iload_n C 2 rfl rfl rfl ?_
      refine r_aload_n C 0 rfl rfl rfl rfl ?_
      refine r_geti C rfl f_X8_21 (by assumption) rfl ?_
      refine r_top _ (wg_4 _ _ _) ?_
      refine r_iadd C rfl ?_
      refine r_top (nI (6 * l + dp)) (by rw [w0, nI_add]) ?_
      refine r_icmp_ge C 65 rfl (by decide) (fun h => ?_) (fun h => ?_)
      · have h := le_nI (by omega) (by omega) h
        have e : c = dp := by omega
        subst e
        refine r_iload_n C 3 rfl rfl rfl ?_
        refine r_ic (v := nI 2) C rfl (by decide) ?_
        refine r_iand C rfl ?_
        refine r_if_eq C 73 rfl (by decide) (fun h2 => ?_) (fun h2 => ?_)
        · have h2 := fun q => hz2.mpr q h2
          refine r_iload C rfl rfl ?_
          refine r_if_eq C 80 rfl (by decide) (fun h3 => ?_) (fun h3 => ?_)
          · refine r_iload_n C 3 rfl rfl rfl ?_
            refine r_ic (v := nI 1) C rfl (by decide) ?_
            refine r_iand C rfl ?_
            refine r_if_eq C 90 rfl (by decide) (fun h4 => ?_) (fun h4 => ?_)
            · refine r_ic (v := nI 4) C rfl (by decide) ?_
              exact q_iret C hQ rfl rfl rfl ⟨by rw [whyR, if_neg h2, bI_0 h3, if_neg (by decide), if_neg (fun q => hz1.mpr q h4)], rfl, rfl, rfl⟩
            · refine r_ic (v := nI 3) C rfl (by decide) ?_
              refine r_goto C 91 rfl (by decide) ?_
              exact q_iret C hQ rfl rfl rfl ⟨by rw [whyR, if_neg h2, bI_0 h3, if_neg (by decide), if_pos (hz1.mp h4)], rfl, rfl, rfl⟩
          · refine r_ic (v := nI 2) C rfl (by decide) ?_
            exact q_iret C hQ rfl rfl rfl ⟨by rw [whyR, if_neg h2, if_pos (bI_1 h3)], rfl, rfl, rfl⟩
        · refine r_ic (v := nI 1) C rfl (by decide) ?_
          exact q_iret C hQ rfl rfl rfl ⟨by rw [whyR, if_pos (hz2.mp h2)], rfl, rfl, rfl⟩
      · have h := nle_nI (by omega) (by omega) h
        have hor : ∀ i : Nat, i < 31 → ∀ y : Int32, (¬ (z ||| y) &&& nI (2 ^ i) = 0 ↔ (¬ z &&& nI (2 ^ i) = 0) ∨ ¬ y &&& nI (2 ^ i) = 0) := by
          intro i hi y
          rw [or_and]
          have h2 : ¬ nI (2 ^ i) = 0 := fun q => by
            have := (nI_eq (b := 0) (Nat.pow_lt_pow_right (by decide) hi) (by decide)).mp q
            exact absurd this (Nat.ne_of_gt (Nat.two_pow_pos i))
          rcases and2 z i hi with p1 | p1 <;> rcases and2 y i hi with p2 | p2 <;> rw [p1, p2] <;> simp [h2]
        have k57 : ∀ b : Int32, b = bI (allB (fun c => decide (nI 180 ≤ R (37 + (6 * l + c)))) (c + 1)) → PT k E Q 0 0 Sh N G (wset M w R) 57 [some (.ref w), some (.int (nI l)), some (.int (nI (6 * l))), some (.int (z ||| R (181 + (6 * l + c)))), some (.int (bI (allB (fun c => decide (nI 180 ≤ R (37 + (6 * l + c)))) c))), some (.int (nI (6 * l + c)))] [.int b] := by
          intro b hb
          subst hb
          refine r_istore C rfl (by exact Nat.le_of_ble_eq_true rfl) ?_
          refine r_iinc (c := nI 1) C rfl rfl (by decide) ?_
          refine r_goto C 13 rfl (by decide) ?_
          refine r_eqL ?_ (ih (c + 1) (by omega) (by omega) (z ||| R (181 + (6 * l + c))) ?_ ?_)
          · rw [show 6 * l + (c + 1) = 6 * l + c + 1 by omega]
            first | rfl | (simp only [sm, add3, nI_add, Int32.add_zero, Int32.zero_add]; rfl)
          · rw [anyB, Bool.or_eq_true, ← hz2, decide_eq_true_iff, hol_iff]
            exact hor 1 (by decide) _
          · rw [anyB, Bool.or_eq_true, ← hz1, decide_eq_true_iff, crk_iff]
            exact hor 0 (by decide) _
        refine r_iload_n C 3 rfl rfl rfl ?_
        refine r_aload_n C 0 rfl rfl rfl rfl ?_
        refine r_getv C rfl f_X8_15 (by assumption) rfl ?_
        refine r_iload C rfl rfl ?_
        refine r_iald C rfl (by assumption) (6 * l + c) rfl (by omega) (by decide) ?_
        refine r_top _ (wg_m _ _ _ (by omega)) ?_
        refine r_ior C rfl ?_
        refine r_istore_n C 3 rfl rfl (by exact Nat.le_of_ble_eq_true rfl) ?_
        refine r_iload C rfl rfl ?_
        refine r_if_eq C 56 rfl (by decide) (fun h2 => ?_) (fun h2 => ?_)
        · refine r_ic (v := nI 0) C rfl (by decide) ?_
          exact k57 _ (by rw [allB, bI_0 h2]; rfl)
        refine r_aload_n C 0 rfl rfl rfl rfl ?_
        refine r_getv C rfl f_X8_9 (by assumption) rfl ?_
        refine r_iload C rfl rfl ?_
        refine r_iald C rfl (by assumption) (6 * l + c) rfl (by omega) (by decide) ?_
        refine r_top _ (wg_w _ _ _ (by omega)) ?_
        refine r_si (v := nI 180) C rfl (by decide) ?_
        refine r_icmp_lt C 56 rfl (by decide) (fun h3 => ?_) (fun h3 => ?_)
        · refine r_ic (v := nI 0) C rfl (by decide) ?_
          exact k57 _ (by rw [allB, decide_eq_false (Int32.not_le.mpr h3), Bool.and_false]; rfl)
        · refine r_ic (v := nI 1) C rfl (by decide) ?_
          refine r_goto C 57 rfl (by decide) ?_
          exact k57 _ (by rw [allB, bI_1 h2, decide_eq_true (Int32.not_lt.mp h3)]; rfl)
  refine r_iload_n C 1 rfl rfl rfl ?_
  refine r_bi (v := nI 6) C rfl (by decide) ?_
  refine r_imul C rfl ?_
  refine r_top (nI (6 * l)) (by rw [pk_mul, Nat.mul_comm]) ?_
  refine r_istore_n C 2 rfl rfl (by exact Nat.le_of_ble_eq_true rfl) ?_
  refine r_ic (v := nI 0) C rfl (by decide) ?_
  refine r_istore_n C 3 rfl rfl (by exact Nat.le_of_ble_eq_true rfl) ?_
  refine r_ic (v := nI 1) C rfl (by decide) ?_
  refine r_istore C rfl (by exact Nat.le_of_ble_eq_true rfl) ?_
  refine r_iload_n C 2 rfl rfl rfl ?_
  refine r_istore C rfl (by exact Nat.le_of_ble_eq_true rfl) ?_
  exact loop (dp + 1) 0 (by omega) (by omega) (nI 0) ⟨fun h => absurd (by decide) h, fun h => absurd h (by simp [anyB])⟩ ⟨fun h => absurd (by decide) h, fun h => absurd h (by simp [anyB])⟩
theorem w_fallFrom (hA : WA Sh N w yd) {x : Int32} (dp mn l : Nat) (hW : WF R dp mn) (hx : x = nI l) (hl : l < mn) : Con E mX8_fallFrom 3 0 0 [.ref w, .int x] Sh N G (wset M w R) (P1 none Sh N (wset M w (cutR dp mn l (upd (upd R 10 (whyR R dp l)) 9 (R 9 + nI 1))))) nox := by
  subst hx
  have hW' := hW
  obtain ⟨w0, w1, w2, w3, w4⟩ := hW
  have hA' := hA
  obtain ⟨a0, a1, a2, a3, a4, a5⟩ := hA
  refine Con.ofQ (by decide +kernel) (by simp [Value.category]) (Nat.le_of_ble_eq_true rfl) (fun k C0 Q hQ => ?_)
  have C : CK k E mX8_fallFrom kdX8_fallFrom 3 0 0 := ⟨C0, kdX8_fallFrom_ok⟩
  refine r_iload_n C 1 rfl rfl rfl ?_
  refine r_if_lt C 36 rfl (by decide) (fun h => absurd h (nI_pos (by omega))) (fun _ => ?_)
  refine r_iload_n C 1 rfl rfl rfl ?_
  refine r_aload_n C 0 rfl rfl rfl rfl ?_
  refine r_geti C rfl f_X8_62 (by assumption) rfl ?_
  refine r_top _ (wg_5 _ _ _) ?_
  refine r_top (nI mn) w3 ?_
  refine r_icmp_ge C 36 rfl (by decide) (fun h => ?_) (fun h => ?_)
  · have h := le_nI (by omega) (by omega) h
    omega
  refine r_aload_n C 0 rfl rfl rfl rfl ?_
  refine r_aload_n C 0 rfl rfl rfl rfl ?_
  refine r_iload_n C 1 rfl rfl rfl ?_
  refine v1_r C rfl mfX8_whyGivesWay lk_X8_90 (by assumption) (w_whyGivesWay hA' dp mn l hW' rfl (by omega)) ?_
  refine r_puti C rfl f_X8_71 (by assumption) rfl rfl rfl ?_
  refine r_eqM (wp_14 _ _ _ _) ?_
  refine r_aload_n C 0 rfl rfl rfl rfl ?_
  refine r_dup C rfl rfl ?_
  refine r_geti C rfl f_X8_68 (by assumption) rfl ?_
  refine r_top _ (wg_13 _ _ _) ?_
  refine r_ic (v := nI 1) C rfl (by decide) ?_
  refine r_iadd C rfl ?_
  refine r_puti C rfl f_X8_68 (by assumption) rfl rfl rfl ?_
  refine r_eqM (wp_13 _ _ _ _) ?_
  have hW2 : WF (upd (upd R 10 (whyR R dp l)) 9 (upd R 10 (whyR R dp l) 9 + nI 1)) dp mn := ⟨by simpa [upd] using w0, w1, w2, by simpa [upd] using w3, w4⟩
  refine r_aload_n C 0 rfl rfl rfl rfl ?_
  refine r_iload_n C 1 rfl rfl rfl ?_
  refine v1_v C rfl mfX8_dropFrom lk_X8_93 (by assumption) (w_dropFrom hA' dp mn l hW2 rfl hl) ?_
  exact q_vret C hQ rfl rfl ⟨rfl, rfl, rfl, rfl⟩
theorem rIn_step2 (R : Row) (l c : Nat) (h : 6 * l + c < 144) (hl : l < 24) : upd (upd (fun j => if j = 13 + l then R j else rIn R l c j) (37 + (6 * l + c)) (nI 200)) (181 + (6 * l + c)) (nI 0) = fun j => if j = 13 + l then R j else rIn R l (c + 1) j := by
  rw [← rIn_step R l c h hl]
  funext j
  simp only [upd]
  by_cases q1 : j = 181 + (6 * l + c)
  · rw [if_pos q1, if_neg (by omega), if_pos q1]; rfl
  · rw [if_neg q1]
    by_cases q2 : j = 37 + (6 * l + c)
    · rw [if_pos q2, if_neg (by omega), if_neg q1, if_pos q2]
    · rw [if_neg q2]
      by_cases q3 : j = 13 + l
      · rw [if_pos q3, if_pos q3]
      · rw [if_neg q3, if_neg q3, if_neg q1, if_neg q2]
theorem w_raise (hA : WA Sh N w yd) {x : Int32} (dp mn n : Nat) (hW : WF R dp mn) (hx : x = nI n) (hn : mn + n ≤ 24) : Con E mX8_raise 1 0 0 [.ref w, .int x] Sh N G (wset M w R) (P1 none Sh N (wset M w (raisR dp mn n R))) nox := by
  subst hx
  obtain ⟨a0, a1, a2, a3, a4, a5⟩ := hA
  refine Con.ofQ (by decide +kernel) (by simp [Value.category]) (Nat.le_of_ble_eq_true rfl) (fun k C0 Q hQ => ?_)
  have C : CK k E mX8_raise kdX8_raise 1 0 0 := ⟨C0, kdX8_raise_ok⟩
  have inner : ∀ (R' : Row) (l i : Nat), WF R' dp l → l < 24 → (PT k E Q 0 0 Sh N G (wset M w (fun j => if j = 13 + l then R' j else rIn R' l dp j)) 62 [some (.ref w), some (.int (nI n)), some (.int (nI i)), some (.int (nI (6 * l))), some (.int (nI (6 * l + dp)))] []) → ∀ m c : Nat, c ≤ dp → dp - c < m → PT k E Q 0 0 Sh N G (wset M w (fun j => if j = 13 + l then R' j else rIn R' l c j)) 27 [some (.ref w), some (.int (nI n)), some (.int (nI i)), some (.int (nI (6 * l))), some (.int (nI (6 * l + c)))] [] := by
    intro R' l i hW' hl kk m
    obtain ⟨w0, w1, w2, w3, w4⟩ := hW'
    induction m with
    | zero => intro c _ h; omega
    | succ m ih =>
      intro c hc hm
      refine r_iload C rfl rfl ?_
      refine r_iload_n C 3 rfl rfl rfl ?_
      refine r_aload_n C 0 rfl rfl rfl rfl ?_
      refine r_geti C rfl f_X8_21 (by assumption) rfl ?_
      refine r_top _ (wg_4 _ _ _) ?_
      refine r_iadd C rfl ?_
      refine r_top (nI (6 * l + dp)) (by rw [if_neg (by omega), rIn_lo _ _ _ (by decide), w0, nI_add]) ?_
      refine r_icmp_ge C 62 rfl (by decide) (fun h => ?_) (fun h => ?_)
      · have h := le_nI (by omega) (by omega) h
        have e : c = dp := by omega
        subst e
        exact kk
      · have h := nle_nI (by omega) (by omega) h
        refine r_aload_n C 0 rfl rfl rfl rfl ?_
        refine r_getv C rfl f_X8_9 (by assumption) rfl ?_
        refine r_iload C rfl rfl ?_
        refine r_si (v := nI 200) C rfl (by decide) ?_
        refine r_iast C rfl (by assumption) (6 * l + c) rfl (by omega) (by decide) ?_
        refine r_eqM (wp_w _ _ _ _ (by omega)) ?_
        refine r_aload_n C 0 rfl rfl rfl rfl ?_
        refine r_getv C rfl f_X8_15 (by assumption) rfl ?_
        refine r_iload C rfl rfl ?_
        refine r_ic (v := nI 0) C rfl (by decide) ?_
        refine r_iast C rfl (by assumption) (6 * l + c) rfl (by omega) (by decide) ?_
        refine r_eqM (wp_m _ _ _ _ (by omega)) ?_
        refine r_iinc (c := nI 1) C rfl rfl (by decide) ?_
        refine r_goto C 27 rfl (by decide) ?_
        refine r_eqM ?_ (r_eqL ?_ (ih (c + 1) (by omega) (by omega)))
        · exact congrArg (wset M w) (rIn_step2 R' l c (by omega) hl)
        · rw [show 6 * l + (c + 1) = 6 * l + c + 1 by omega]
          first | rfl | (simp only [sm, add3, nI_add, Int32.add_zero, Int32.zero_add]; rfl)
  have loop : ∀ m i : Nat, i ≤ n → n - i < m → ∀ v3 v4 : Option Value, PT k E Q 0 0 Sh N G (wset M w (raisR dp mn i R)) 2 [some (.ref w), some (.int (nI n)), some (.int (nI i)), v3, v4] [] := by
    intro m
    induction m with
    | zero => intro i _ h; omega
    | succ m ih =>
      intro i hi hm v3 v4
      refine r_iload_n C 2 rfl rfl rfl ?_
      refine r_iload_n C 1 rfl rfl rfl ?_
      refine r_icmp_ge C 105 rfl (by decide) (fun h => ?_) (fun h => ?_)
      · have h := le_nI (by omega) (by omega) h
        have e : i = n := by omega
        subst e
        exact q_vret C hQ rfl rfl ⟨rfl, rfl, rfl, rfl⟩
      have h := nle_nI (by omega) (by omega) h
      have hW' := wf_raisR hW (n := i) (by omega)
      generalize hR' : raisR dp mn i R = R' at hW' ⊢
      refine r_aload_n C 0 rfl rfl rfl rfl ?_
      refine r_geti C rfl f_X8_62 (by assumption) rfl ?_
      refine r_top _ (wg_5 _ _ _) ?_
      refine r_top (nI (mn + i)) hW'.2.2.2.1 ?_
      refine r_bi (v := nI 24) C rfl (by decide) ?_
      refine r_icmp_ge C 105 rfl (by decide) (fun h2 => ?_) (fun h2 => ?_)
      · have h2 := le_nI (by omega) (by omega) h2
        omega
      refine r_aload_n C 0 rfl rfl rfl rfl ?_
      refine r_geti C rfl f_X8_62 (by assumption) rfl ?_
      refine r_top _ (wg_5 _ _ _) ?_
      refine r_top (nI (mn + i)) hW'.2.2.2.1 ?_
      refine r_bi (v := nI 6) C rfl (by decide) ?_
      refine r_imul C rfl ?_
      refine r_top (nI (6 * (mn + i))) (by rw [pk_mul, Nat.mul_comm]) ?_
      refine r_istore_n C 3 rfl rfl (by exact Nat.le_of_ble_eq_true rfl) ?_
      refine r_iload_n C 3 rfl rfl rfl ?_
      refine r_istore C rfl (by exact Nat.le_of_ble_eq_true rfl) ?_
      refine r_eqM ?_ (r_eqL ?_ (inner R' (mn + i) i hW' (by omega) ?_ (dp + 1) 0 (by omega) (by omega)))
      · congr 1
        funext j
        by_cases q : j = 13 + (mn + i)
        · rw [if_pos q]
        · rw [if_neg q, rIn, if_neg q, if_neg (by omega), if_neg (by omega)]
      · first | rfl | (simp only [sm, add3, nI_add, Int32.add_zero, Int32.zero_add]; rfl)
      refine r_aload_n C 0 rfl rfl rfl rfl ?_
      refine r_getv C rfl f_X8_18 (by assumption) rfl ?_
      refine r_aload_n C 0 rfl rfl rfl rfl ?_
      refine r_geti C rfl f_X8_62 (by assumption) rfl ?_
      refine r_top _ (wg_5 _ _ _) ?_
      refine r_top (nI (mn + i)) (by rw [if_neg (by omega), rIn_lo _ _ _ (by decide)]; exact hW'.2.2.2.1) ?_
      refine r_ic (v := nI 0) C rfl (by decide) ?_
      refine r_iast C rfl (by assumption) (mn + i) rfl (by omega) (by decide) ?_
      refine r_eqM (wp_b _ _ _ _ (by omega)) ?_
      have hu : upd (fun j => if j = 13 + (mn + i) then R' j else rIn R' (mn + i) dp j) (13 + (mn + i)) (nI 0) = rIn R' (mn + i) dp := by
        funext j
        simp only [upd]
        by_cases q : j = 13 + (mn + i)
        · rw [if_pos q, rIn, if_pos q]; rfl
        · rw [if_neg q, if_neg q]
      refine r_eqM (congrArg (wset M w) hu) ?_
      refine r_aload_n C 0 rfl rfl rfl rfl ?_
      refine r_dup C rfl rfl ?_
      refine r_geti C rfl f_X8_74 (by assumption) rfl ?_
      refine r_top _ (wg_15 _ _ _) ?_
      refine r_top (R' 11) (rIn_lo _ _ _ (by decide)) ?_
      refine r_aload_n C 0 rfl rfl rfl rfl ?_
      refine r_geti C rfl f_X8_21 (by assumption) rfl ?_
      refine r_top _ (wg_4 _ _ _) ?_
      refine r_top (nI dp) (by rw [rIn_lo _ _ _ (by decide)]; exact hW'.1) ?_
      refine r_si (v := nI 200) C rfl (by decide) ?_
      refine r_imul C rfl ?_
      refine r_iadd C rfl ?_
      refine r_puti C rfl f_X8_74 (by assumption) rfl rfl rfl ?_
      refine r_eqM (wp_15 _ _ _ _) ?_
      refine r_aload_n C 0 rfl rfl rfl rfl ?_
      refine r_dup C rfl rfl ?_
      refine r_geti C rfl f_X8_62 (by assumption) rfl ?_
      refine r_top _ (wg_5 _ _ _) ?_
      refine r_top (nI (mn + i)) (by simp only [upd]; rw [if_neg (by decide), rIn_lo _ _ _ (by decide)]; exact hW'.2.2.2.1) ?_
      refine r_ic (v := nI 1) C rfl (by decide) ?_
      refine r_iadd C rfl ?_
      refine r_puti C rfl f_X8_62 (by assumption) rfl rfl rfl ?_
      refine r_eqM (wp_5 _ _ _ _) ?_
      refine r_iinc (c := nI 1) C rfl rfl (by decide) ?_
      refine r_goto C 2 rfl (by decide) ?_
      refine r_eqM ?_ (r_eqL ?_ (ih (i + 1) (by omega) (by omega) (some (.int (nI (6 * (mn + i))))) (some (.int (nI (6 * (mn + i) + dp))))))
      · show _ = wset M w (rais1 dp (mn + i) (raisR dp mn i R))
        rw [hR']
        rw [← rais1_eq, nI_add, Int32.mul_comm]
      · first | rfl | (simp only [sm, add3, nI_add, Int32.add_zero, Int32.zero_add]; rfl)
  refine r_ic (v := nI 0) C rfl (by decide) ?_
  refine r_istore_n C 2 rfl rfl (by exact Nat.le_of_ble_eq_true rfl) ?_
  exact loop (n + 1) 0 (by omega) (by omega) none none
end WALL2
